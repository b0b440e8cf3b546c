section
-- ===== PART A: goes FIRST, ahead of the names: the tables' words, and 'selects' of the private methods out of them =====
/-- a private method of a class that the tables say can be made, by its rows of tables_1 -/
def lw_okq (q : MethodName × Nat) : Prop := (q.1.cls ≠ "java/lang/invoke/MethodHandle" ∧ q.1.cls ≠ "java/lang/invoke/VarHandle") ∧ Cond.instantiable q.1.cls q.2 ∈ tables_1 ∧ Cond.privateMethod q.1 ∈ tables_1 ∧ Cond.instanceMethod q.1 ∈ tables_1
theorem lw_p0 : lw_okq (⟨"TimeGaps$Plan", "clear", "()V"⟩, 12) := ⟨⟨by decide +kernel, by decide +kernel⟩, List.mem_of_getElem? (i := 30) (by decide +kernel), List.mem_of_getElem? (i := 251) (by decide +kernel), List.mem_of_getElem? (i := 252) (by decide +kernel)⟩
theorem lw_p1 : lw_okq (⟨"TimeGaps$Log", "clear", "()V"⟩, 3) := ⟨⟨by decide +kernel, by decide +kernel⟩, List.mem_of_getElem? (i := 36) (by decide +kernel), List.mem_of_getElem? (i := 255) (by decide +kernel), List.mem_of_getElem? (i := 256) (by decide +kernel)⟩
theorem lw_p2 : lw_okq (⟨"TimeGaps$Plan", "addStart", "()V"⟩, 12) := ⟨⟨by decide +kernel, by decide +kernel⟩, List.mem_of_getElem? (i := 30) (by decide +kernel), List.mem_of_getElem? (i := 259) (by decide +kernel), List.mem_of_getElem? (i := 260) (by decide +kernel)⟩
theorem lw_p3 : lw_okq (⟨"TimeGaps$Net", "build", "(LTimeGaps$Plan;I)V"⟩, 7) := ⟨⟨by decide +kernel, by decide +kernel⟩, List.mem_of_getElem? (i := 126) (by decide +kernel), List.mem_of_getElem? (i := 312) (by decide +kernel), List.mem_of_getElem? (i := 313) (by decide +kernel)⟩
theorem lw_p4 : lw_okq (⟨"TimeGaps$Net", "collectSteps", "(LTimeGaps$Plan;I)V"⟩, 7) := ⟨⟨by decide +kernel, by decide +kernel⟩, List.mem_of_getElem? (i := 126) (by decide +kernel), List.mem_of_getElem? (i := 316) (by decide +kernel), List.mem_of_getElem? (i := 317) (by decide +kernel)⟩
theorem lw_p5 : lw_okq (⟨"TimeGaps$Net", "collect", "(IIII)V"⟩, 7) := ⟨⟨by decide +kernel, by decide +kernel⟩, List.mem_of_getElem? (i := 126) (by decide +kernel), List.mem_of_getElem? (i := 329) (by decide +kernel), List.mem_of_getElem? (i := 330) (by decide +kernel)⟩
theorem lw_p6 : lw_okq (⟨"TimeGaps$Plan", "isPinned", "(I)Z"⟩, 12) := ⟨⟨by decide +kernel, by decide +kernel⟩, List.mem_of_getElem? (i := 30) (by decide +kernel), List.mem_of_getElem? (i := 333) (by decide +kernel), List.mem_of_getElem? (i := 334) (by decide +kernel)⟩
theorem lw_p7 : lw_okq (⟨"TimeGaps$Net", "startWeights", "()V"⟩, 7) := ⟨⟨by decide +kernel, by decide +kernel⟩, List.mem_of_getElem? (i := 126) (by decide +kernel), List.mem_of_getElem? (i := 337) (by decide +kernel), List.mem_of_getElem? (i := 338) (by decide +kernel)⟩
theorem lw_p8 : lw_okq (⟨"TimeGaps$Net", "closeWeights", "()V"⟩, 7) := ⟨⟨by decide +kernel, by decide +kernel⟩, List.mem_of_getElem? (i := 126) (by decide +kernel), List.mem_of_getElem? (i := 348) (by decide +kernel), List.mem_of_getElem? (i := 349) (by decide +kernel)⟩
theorem lw_p9 : lw_okq (⟨"TimeGaps$Tape", "putFourBytes", "(I)V"⟩, 2) := ⟨⟨by decide +kernel, by decide +kernel⟩, List.mem_of_getElem? (i := 198) (by decide +kernel), List.mem_of_getElem? (i := 397) (by decide +kernel), List.mem_of_getElem? (i := 398) (by decide +kernel)⟩
theorem lw_p10 : lw_okq (⟨"TimeGaps$SetupReader", "read", "()Z"⟩, 6) := ⟨⟨by decide +kernel, by decide +kernel⟩, List.mem_of_getElem? (i := 192) (by decide +kernel), List.mem_of_getElem? (i := 405) (by decide +kernel), List.mem_of_getElem? (i := 406) (by decide +kernel)⟩
theorem lw_p11 : lw_okq (⟨"TimeGaps$SetupReader", "next", "()V"⟩, 6) := ⟨⟨by decide +kernel, by decide +kernel⟩, List.mem_of_getElem? (i := 192) (by decide +kernel), List.mem_of_getElem? (i := 410) (by decide +kernel), List.mem_of_getElem? (i := 411) (by decide +kernel)⟩
theorem lw_p12 : lw_okq (⟨"TimeGaps$Tape", "countSpaces", "(I)I"⟩, 2) := ⟨⟨by decide +kernel, by decide +kernel⟩, List.mem_of_getElem? (i := 198) (by decide +kernel), List.mem_of_getElem? (i := 414) (by decide +kernel), List.mem_of_getElem? (i := 415) (by decide +kernel)⟩
theorem lw_p13 : lw_okq (⟨"TimeGaps$Tape", "byteAt", "(I)I"⟩, 2) := ⟨⟨by decide +kernel, by decide +kernel⟩, List.mem_of_getElem? (i := 198) (by decide +kernel), List.mem_of_getElem? (i := 418) (by decide +kernel), List.mem_of_getElem? (i := 419) (by decide +kernel)⟩
theorem lw_p14 : lw_okq (⟨"TimeGaps$Tape", "countLetters", "(I)I"⟩, 2) := ⟨⟨by decide +kernel, by decide +kernel⟩, List.mem_of_getElem? (i := 198) (by decide +kernel), List.mem_of_getElem? (i := 426) (by decide +kernel), List.mem_of_getElem? (i := 427) (by decide +kernel)⟩
theorem lw_p15 : lw_okq (⟨"TimeGaps$Tape", "countDigits", "(I)I"⟩, 2) := ⟨⟨by decide +kernel, by decide +kernel⟩, List.mem_of_getElem? (i := 198) (by decide +kernel), List.mem_of_getElem? (i := 434) (by decide +kernel), List.mem_of_getElem? (i := 435) (by decide +kernel)⟩
def lw_privs_1 : List (MethodName × Nat) := [(⟨"TimeGaps$Plan", "clear", "()V"⟩, 12), (⟨"TimeGaps$Log", "clear", "()V"⟩, 3), (⟨"TimeGaps$Plan", "addStart", "()V"⟩, 12), (⟨"TimeGaps$Net", "build", "(LTimeGaps$Plan;I)V"⟩, 7), (⟨"TimeGaps$Net", "collectSteps", "(LTimeGaps$Plan;I)V"⟩, 7), (⟨"TimeGaps$Net", "collect", "(IIII)V"⟩, 7), (⟨"TimeGaps$Plan", "isPinned", "(I)Z"⟩, 12), (⟨"TimeGaps$Net", "startWeights", "()V"⟩, 7), (⟨"TimeGaps$Net", "closeWeights", "()V"⟩, 7), (⟨"TimeGaps$Tape", "putFourBytes", "(I)V"⟩, 2), (⟨"TimeGaps$SetupReader", "read", "()Z"⟩, 6), (⟨"TimeGaps$SetupReader", "next", "()V"⟩, 6), (⟨"TimeGaps$Tape", "countSpaces", "(I)I"⟩, 2), (⟨"TimeGaps$Tape", "byteAt", "(I)I"⟩, 2), (⟨"TimeGaps$Tape", "countLetters", "(I)I"⟩, 2), (⟨"TimeGaps$Tape", "countDigits", "(I)I"⟩, 2)]
theorem lw_r1 : ∀ q ∈ lw_privs_1, lw_okq q := List.forall_mem_cons.mpr ⟨lw_p0, List.forall_mem_cons.mpr ⟨lw_p1, List.forall_mem_cons.mpr ⟨lw_p2, List.forall_mem_cons.mpr ⟨lw_p3, List.forall_mem_cons.mpr ⟨lw_p4, List.forall_mem_cons.mpr ⟨lw_p5, List.forall_mem_cons.mpr ⟨lw_p6, List.forall_mem_cons.mpr ⟨lw_p7, List.forall_mem_cons.mpr ⟨lw_p8, List.forall_mem_cons.mpr ⟨lw_p9, List.forall_mem_cons.mpr ⟨lw_p10, List.forall_mem_cons.mpr ⟨lw_p11, List.forall_mem_cons.mpr ⟨lw_p12, List.forall_mem_cons.mpr ⟨lw_p13, List.forall_mem_cons.mpr ⟨lw_p14, List.forall_mem_cons.mpr ⟨lw_p15, fun _ h => absurd h List.not_mem_nil⟩⟩⟩⟩⟩⟩⟩⟩⟩⟩⟩⟩⟩⟩⟩⟩
theorem lw_p16 : lw_okq (⟨"TimeGaps$SetupReader", "readEnd", "()Z"⟩, 6) := ⟨⟨by decide +kernel, by decide +kernel⟩, List.mem_of_getElem? (i := 192) (by decide +kernel), List.mem_of_getElem? (i := 439) (by decide +kernel), List.mem_of_getElem? (i := 440) (by decide +kernel)⟩
theorem lw_p17 : lw_okq (⟨"TimeGaps$SetupReader", "takeWord", "(Ljava/lang/String;)Z"⟩, 6) := ⟨⟨by decide +kernel, by decide +kernel⟩, List.mem_of_getElem? (i := 192) (by decide +kernel), List.mem_of_getElem? (i := 444) (by decide +kernel), List.mem_of_getElem? (i := 445) (by decide +kernel)⟩
theorem lw_p18 : lw_okq (⟨"TimeGaps$SetupReader", "isHere", "(Ljava/lang/String;)Z"⟩, 6) := ⟨⟨by decide +kernel, by decide +kernel⟩, List.mem_of_getElem? (i := 192) (by decide +kernel), List.mem_of_getElem? (i := 448) (by decide +kernel), List.mem_of_getElem? (i := 449) (by decide +kernel)⟩
theorem lw_p19 : lw_okq (⟨"TimeGaps$Tape", "spells", "(IILjava/lang/String;)Z"⟩, 2) := ⟨⟨by decide +kernel, by decide +kernel⟩, List.mem_of_getElem? (i := 198) (by decide +kernel), List.mem_of_getElem? (i := 452) (by decide +kernel), List.mem_of_getElem? (i := 453) (by decide +kernel)⟩
theorem lw_p20 : lw_okq (⟨"TimeGaps$SetupReader", "numberHere", "()I"⟩, 6) := ⟨⟨by decide +kernel, by decide +kernel⟩, List.mem_of_getElem? (i := 192) (by decide +kernel), List.mem_of_getElem? (i := 458) (by decide +kernel), List.mem_of_getElem? (i := 459) (by decide +kernel)⟩
theorem lw_p21 : lw_okq (⟨"TimeGaps$SetupReader", "takeSemicolon", "()Z"⟩, 6) := ⟨⟨by decide +kernel, by decide +kernel⟩, List.mem_of_getElem? (i := 192) (by decide +kernel), List.mem_of_getElem? (i := 462) (by decide +kernel), List.mem_of_getElem? (i := 463) (by decide +kernel)⟩
theorem lw_p22 : lw_okq (⟨"TimeGaps$SetupReader", "readEvent", "()Z"⟩, 6) := ⟨⟨by decide +kernel, by decide +kernel⟩, List.mem_of_getElem? (i := 192) (by decide +kernel), List.mem_of_getElem? (i := 467) (by decide +kernel), List.mem_of_getElem? (i := 468) (by decide +kernel)⟩
theorem lw_p23 : lw_okq (⟨"TimeGaps$Tape", "isName", "(II)Z"⟩, 2) := ⟨⟨by decide +kernel, by decide +kernel⟩, List.mem_of_getElem? (i := 198) (by decide +kernel), List.mem_of_getElem? (i := 471) (by decide +kernel), List.mem_of_getElem? (i := 472) (by decide +kernel)⟩
theorem lw_p24 : lw_okq (⟨"TimeGaps$Tape", "isKeyword", "(II)Z"⟩, 2) := ⟨⟨by decide +kernel, by decide +kernel⟩, List.mem_of_getElem? (i := 198) (by decide +kernel), List.mem_of_getElem? (i := 476) (by decide +kernel), List.mem_of_getElem? (i := 477) (by decide +kernel)⟩
theorem lw_p25 : lw_okq (⟨"TimeGaps$SetupReader", "eventHere", "()I"⟩, 6) := ⟨⟨by decide +kernel, by decide +kernel⟩, List.mem_of_getElem? (i := 192) (by decide +kernel), List.mem_of_getElem? (i := 489) (by decide +kernel), List.mem_of_getElem? (i := 490) (by decide +kernel)⟩
theorem lw_p26 : lw_okq (⟨"TimeGaps$Plan", "findEvent", "(LTimeGaps$Tape;II)I"⟩, 12) := ⟨⟨by decide +kernel, by decide +kernel⟩, List.mem_of_getElem? (i := 30) (by decide +kernel), List.mem_of_getElem? (i := 493) (by decide +kernel), List.mem_of_getElem? (i := 494) (by decide +kernel)⟩
theorem lw_p27 : lw_okq (⟨"TimeGaps$Plan", "isNamed", "(ILTimeGaps$Tape;II)Z"⟩, 12) := ⟨⟨by decide +kernel, by decide +kernel⟩, List.mem_of_getElem? (i := 30) (by decide +kernel), List.mem_of_getElem? (i := 497) (by decide +kernel), List.mem_of_getElem? (i := 498) (by decide +kernel)⟩
theorem lw_p28 : lw_okq (⟨"TimeGaps$Plan", "letterOf", "(II)I"⟩, 12) := ⟨⟨by decide +kernel, by decide +kernel⟩, List.mem_of_getElem? (i := 30) (by decide +kernel), List.mem_of_getElem? (i := 501) (by decide +kernel), List.mem_of_getElem? (i := 502) (by decide +kernel)⟩
theorem lw_p29 : lw_okq (⟨"TimeGaps$Plan", "addEvent", "(LTimeGaps$Tape;II)I"⟩, 12) := ⟨⟨by decide +kernel, by decide +kernel⟩, List.mem_of_getElem? (i := 30) (by decide +kernel), List.mem_of_getElem? (i := 506) (by decide +kernel), List.mem_of_getElem? (i := 507) (by decide +kernel)⟩
theorem lw_p30 : lw_okq (⟨"TimeGaps$Plan", "nameEvent", "(ILTimeGaps$Tape;II)V"⟩, 12) := ⟨⟨by decide +kernel, by decide +kernel⟩, List.mem_of_getElem? (i := 30) (by decide +kernel), List.mem_of_getElem? (i := 510) (by decide +kernel), List.mem_of_getElem? (i := 511) (by decide +kernel)⟩
theorem lw_p31 : lw_okq (⟨"TimeGaps$SetupReader", "readGap", "()Z"⟩, 6) := ⟨⟨by decide +kernel, by decide +kernel⟩, List.mem_of_getElem? (i := 192) (by decide +kernel), List.mem_of_getElem? (i := 517) (by decide +kernel), List.mem_of_getElem? (i := 518) (by decide +kernel)⟩
def lw_privs_2 : List (MethodName × Nat) := [(⟨"TimeGaps$SetupReader", "readEnd", "()Z"⟩, 6), (⟨"TimeGaps$SetupReader", "takeWord", "(Ljava/lang/String;)Z"⟩, 6), (⟨"TimeGaps$SetupReader", "isHere", "(Ljava/lang/String;)Z"⟩, 6), (⟨"TimeGaps$Tape", "spells", "(IILjava/lang/String;)Z"⟩, 2), (⟨"TimeGaps$SetupReader", "numberHere", "()I"⟩, 6), (⟨"TimeGaps$SetupReader", "takeSemicolon", "()Z"⟩, 6), (⟨"TimeGaps$SetupReader", "readEvent", "()Z"⟩, 6), (⟨"TimeGaps$Tape", "isName", "(II)Z"⟩, 2), (⟨"TimeGaps$Tape", "isKeyword", "(II)Z"⟩, 2), (⟨"TimeGaps$SetupReader", "eventHere", "()I"⟩, 6), (⟨"TimeGaps$Plan", "findEvent", "(LTimeGaps$Tape;II)I"⟩, 12), (⟨"TimeGaps$Plan", "isNamed", "(ILTimeGaps$Tape;II)Z"⟩, 12), (⟨"TimeGaps$Plan", "letterOf", "(II)I"⟩, 12), (⟨"TimeGaps$Plan", "addEvent", "(LTimeGaps$Tape;II)I"⟩, 12), (⟨"TimeGaps$Plan", "nameEvent", "(ILTimeGaps$Tape;II)V"⟩, 12), (⟨"TimeGaps$SetupReader", "readGap", "()Z"⟩, 6)]
theorem lw_r2 : ∀ q ∈ lw_privs_2, lw_okq q := List.forall_mem_cons.mpr ⟨lw_p16, List.forall_mem_cons.mpr ⟨lw_p17, List.forall_mem_cons.mpr ⟨lw_p18, List.forall_mem_cons.mpr ⟨lw_p19, List.forall_mem_cons.mpr ⟨lw_p20, List.forall_mem_cons.mpr ⟨lw_p21, List.forall_mem_cons.mpr ⟨lw_p22, List.forall_mem_cons.mpr ⟨lw_p23, List.forall_mem_cons.mpr ⟨lw_p24, List.forall_mem_cons.mpr ⟨lw_p25, List.forall_mem_cons.mpr ⟨lw_p26, List.forall_mem_cons.mpr ⟨lw_p27, List.forall_mem_cons.mpr ⟨lw_p28, List.forall_mem_cons.mpr ⟨lw_p29, List.forall_mem_cons.mpr ⟨lw_p30, List.forall_mem_cons.mpr ⟨lw_p31, fun _ h => absurd h List.not_mem_nil⟩⟩⟩⟩⟩⟩⟩⟩⟩⟩⟩⟩⟩⟩⟩⟩
theorem lw_p32 : lw_okq (⟨"TimeGaps$SetupReader", "kindHere", "()I"⟩, 6) := ⟨⟨by decide +kernel, by decide +kernel⟩, List.mem_of_getElem? (i := 192) (by decide +kernel), List.mem_of_getElem? (i := 521) (by decide +kernel), List.mem_of_getElem? (i := 522) (by decide +kernel)⟩
theorem lw_p33 : lw_okq (⟨"TimeGaps$Net", "leastRing", "(IIII)I"⟩, 7) := ⟨⟨by decide +kernel, by decide +kernel⟩, List.mem_of_getElem? (i := 126) (by decide +kernel), List.mem_of_getElem? (i := 528) (by decide +kernel), List.mem_of_getElem? (i := 529) (by decide +kernel)⟩
theorem lw_p34 : lw_okq (⟨"TimeGaps$Net", "between", "(II)I"⟩, 7) := ⟨⟨by decide +kernel, by decide +kernel⟩, List.mem_of_getElem? (i := 126) (by decide +kernel), List.mem_of_getElem? (i := 532) (by decide +kernel), List.mem_of_getElem? (i := 533) (by decide +kernel)⟩
theorem lw_p35 : lw_okq (⟨"TimeGaps$Plan", "addGap", "(IIIIZ)I"⟩, 12) := ⟨⟨by decide +kernel, by decide +kernel⟩, List.mem_of_getElem? (i := 30) (by decide +kernel), List.mem_of_getElem? (i := 539) (by decide +kernel), List.mem_of_getElem? (i := 540) (by decide +kernel)⟩
theorem lw_p36 : lw_okq (⟨"TimeGaps$Net", "addGapStep", "(IIII)V"⟩, 7) := ⟨⟨by decide +kernel, by decide +kernel⟩, List.mem_of_getElem? (i := 126) (by decide +kernel), List.mem_of_getElem? (i := 543) (by decide +kernel), List.mem_of_getElem? (i := 544) (by decide +kernel)⟩
theorem lw_p37 : lw_okq (⟨"TimeGaps$Net", "addStep", "(III)V"⟩, 7) := ⟨⟨by decide +kernel, by decide +kernel⟩, List.mem_of_getElem? (i := 126) (by decide +kernel), List.mem_of_getElem? (i := 547) (by decide +kernel), List.mem_of_getElem? (i := 548) (by decide +kernel)⟩
theorem lw_p38 : lw_okq (⟨"TimeGaps$SetupReader", "readPin", "()Z"⟩, 6) := ⟨⟨by decide +kernel, by decide +kernel⟩, List.mem_of_getElem? (i := 192) (by decide +kernel), List.mem_of_getElem? (i := 552) (by decide +kernel), List.mem_of_getElem? (i := 553) (by decide +kernel)⟩
theorem lw_p39 : lw_okq (⟨"TimeGaps$Net", "allows", "(II)Z"⟩, 7) := ⟨⟨by decide +kernel, by decide +kernel⟩, List.mem_of_getElem? (i := 126) (by decide +kernel), List.mem_of_getElem? (i := 557) (by decide +kernel), List.mem_of_getElem? (i := 558) (by decide +kernel)⟩
theorem lw_p40 : lw_okq (⟨"TimeGaps$Net", "earliest", "(I)I"⟩, 7) := ⟨⟨by decide +kernel, by decide +kernel⟩, List.mem_of_getElem? (i := 126) (by decide +kernel), List.mem_of_getElem? (i := 561) (by decide +kernel), List.mem_of_getElem? (i := 562) (by decide +kernel)⟩
theorem lw_p41 : lw_okq (⟨"TimeGaps$Net", "latest", "(I)I"⟩, 7) := ⟨⟨by decide +kernel, by decide +kernel⟩, List.mem_of_getElem? (i := 126) (by decide +kernel), List.mem_of_getElem? (i := 565) (by decide +kernel), List.mem_of_getElem? (i := 566) (by decide +kernel)⟩
theorem lw_p42 : lw_okq (⟨"TimeGaps$Net", "addPin", "(II)V"⟩, 7) := ⟨⟨by decide +kernel, by decide +kernel⟩, List.mem_of_getElem? (i := 126) (by decide +kernel), List.mem_of_getElem? (i := 569) (by decide +kernel), List.mem_of_getElem? (i := 570) (by decide +kernel)⟩
theorem lw_p43 : lw_okq (⟨"TimeGaps$SetupReader", "position", "()I"⟩, 6) := ⟨⟨by decide +kernel, by decide +kernel⟩, List.mem_of_getElem? (i := 192) (by decide +kernel), List.mem_of_getElem? (i := 573) (by decide +kernel), List.mem_of_getElem? (i := 574) (by decide +kernel)⟩
theorem lw_p44 : lw_okq (⟨"TimeGaps$Plan", "copyFrom", "(LTimeGaps$Plan;)V"⟩, 12) := ⟨⟨by decide +kernel, by decide +kernel⟩, List.mem_of_getElem? (i := 30) (by decide +kernel), List.mem_of_getElem? (i := 577) (by decide +kernel), List.mem_of_getElem? (i := 578) (by decide +kernel)⟩
theorem lw_p45 : lw_okq (⟨"TimeGaps$Log", "copyFrom", "(LTimeGaps$Log;)V"⟩, 3) := ⟨⟨by decide +kernel, by decide +kernel⟩, List.mem_of_getElem? (i := 36) (by decide +kernel), List.mem_of_getElem? (i := 584) (by decide +kernel), List.mem_of_getElem? (i := 585) (by decide +kernel)⟩
theorem lw_p46 : lw_okq (⟨"TimeGaps$Slots", "clear", "()V"⟩, 2) := ⟨⟨by decide +kernel, by decide +kernel⟩, List.mem_of_getElem? (i := 175) (by decide +kernel), List.mem_of_getElem? (i := 589) (by decide +kernel), List.mem_of_getElem? (i := 590) (by decide +kernel)⟩
theorem lw_p47 : lw_okq (⟨"TimeGaps$History", "clear", "()V"⟩, 3) := ⟨⟨by decide +kernel, by decide +kernel⟩, List.mem_of_getElem? (i := 155) (by decide +kernel), List.mem_of_getElem? (i := 593) (by decide +kernel), List.mem_of_getElem? (i := 594) (by decide +kernel)⟩
def lw_privs_3 : List (MethodName × Nat) := [(⟨"TimeGaps$SetupReader", "kindHere", "()I"⟩, 6), (⟨"TimeGaps$Net", "leastRing", "(IIII)I"⟩, 7), (⟨"TimeGaps$Net", "between", "(II)I"⟩, 7), (⟨"TimeGaps$Plan", "addGap", "(IIIIZ)I"⟩, 12), (⟨"TimeGaps$Net", "addGapStep", "(IIII)V"⟩, 7), (⟨"TimeGaps$Net", "addStep", "(III)V"⟩, 7), (⟨"TimeGaps$SetupReader", "readPin", "()Z"⟩, 6), (⟨"TimeGaps$Net", "allows", "(II)Z"⟩, 7), (⟨"TimeGaps$Net", "earliest", "(I)I"⟩, 7), (⟨"TimeGaps$Net", "latest", "(I)I"⟩, 7), (⟨"TimeGaps$Net", "addPin", "(II)V"⟩, 7), (⟨"TimeGaps$SetupReader", "position", "()I"⟩, 6), (⟨"TimeGaps$Plan", "copyFrom", "(LTimeGaps$Plan;)V"⟩, 12), (⟨"TimeGaps$Log", "copyFrom", "(LTimeGaps$Log;)V"⟩, 3), (⟨"TimeGaps$Slots", "clear", "()V"⟩, 2), (⟨"TimeGaps$History", "clear", "()V"⟩, 3)]
theorem lw_r3 : ∀ q ∈ lw_privs_3, lw_okq q := List.forall_mem_cons.mpr ⟨lw_p32, List.forall_mem_cons.mpr ⟨lw_p33, List.forall_mem_cons.mpr ⟨lw_p34, List.forall_mem_cons.mpr ⟨lw_p35, List.forall_mem_cons.mpr ⟨lw_p36, List.forall_mem_cons.mpr ⟨lw_p37, List.forall_mem_cons.mpr ⟨lw_p38, List.forall_mem_cons.mpr ⟨lw_p39, List.forall_mem_cons.mpr ⟨lw_p40, List.forall_mem_cons.mpr ⟨lw_p41, List.forall_mem_cons.mpr ⟨lw_p42, List.forall_mem_cons.mpr ⟨lw_p43, List.forall_mem_cons.mpr ⟨lw_p44, List.forall_mem_cons.mpr ⟨lw_p45, List.forall_mem_cons.mpr ⟨lw_p46, List.forall_mem_cons.mpr ⟨lw_p47, fun _ h => absurd h List.not_mem_nil⟩⟩⟩⟩⟩⟩⟩⟩⟩⟩⟩⟩⟩⟩⟩⟩
theorem lw_p48 : lw_okq (⟨"TimeGaps$Plan", "countOn", "()I"⟩, 12) := ⟨⟨by decide +kernel, by decide +kernel⟩, List.mem_of_getElem? (i := 30) (by decide +kernel), List.mem_of_getElem? (i := 862) (by decide +kernel), List.mem_of_getElem? (i := 863) (by decide +kernel)⟩
theorem lw_p49 : lw_okq (⟨"TimeGaps$Plan", "countPinned", "()I"⟩, 12) := ⟨⟨by decide +kernel, by decide +kernel⟩, List.mem_of_getElem? (i := 30) (by decide +kernel), List.mem_of_getElem? (i := 869) (by decide +kernel), List.mem_of_getElem? (i := 870) (by decide +kernel)⟩
theorem lw_p50 : lw_okq (⟨"TimeGaps", "countTight", "()I"⟩, 9) := ⟨⟨by decide +kernel, by decide +kernel⟩, List.mem_of_getElem? (i := 22) (by decide +kernel), List.mem_of_getElem? (i := 874) (by decide +kernel), List.mem_of_getElem? (i := 875) (by decide +kernel)⟩
theorem lw_p51 : lw_okq (⟨"TimeGaps", "isTight", "(I)Z"⟩, 9) := ⟨⟨by decide +kernel, by decide +kernel⟩, List.mem_of_getElem? (i := 22) (by decide +kernel), List.mem_of_getElem? (i := 878) (by decide +kernel), List.mem_of_getElem? (i := 879) (by decide +kernel)⟩
theorem lw_p52 : lw_okq (⟨"TimeGaps", "lengthOf", "(I)I"⟩, 9) := ⟨⟨by decide +kernel, by decide +kernel⟩, List.mem_of_getElem? (i := 22) (by decide +kernel), List.mem_of_getElem? (i := 882) (by decide +kernel), List.mem_of_getElem? (i := 883) (by decide +kernel)⟩
theorem lw_p53 : lw_okq (⟨"TimeGaps", "boundOf", "(I)I"⟩, 9) := ⟨⟨by decide +kernel, by decide +kernel⟩, List.mem_of_getElem? (i := 22) (by decide +kernel), List.mem_of_getElem? (i := 887) (by decide +kernel), List.mem_of_getElem? (i := 888) (by decide +kernel)⟩
theorem lw_p54 : lw_okq (⟨"TimeGaps", "beginOf", "(I)I"⟩, 9) := ⟨⟨by decide +kernel, by decide +kernel⟩, List.mem_of_getElem? (i := 22) (by decide +kernel), List.mem_of_getElem? (i := 891) (by decide +kernel), List.mem_of_getElem? (i := 892) (by decide +kernel)⟩
theorem lw_p55 : lw_okq (⟨"TimeGaps", "finishOf", "(I)I"⟩, 9) := ⟨⟨by decide +kernel, by decide +kernel⟩, List.mem_of_getElem? (i := 22) (by decide +kernel), List.mem_of_getElem? (i := 896) (by decide +kernel), List.mem_of_getElem? (i := 897) (by decide +kernel)⟩
theorem lw_p56 : lw_okq (⟨"TimeGaps", "countNeeded", "()I"⟩, 9) := ⟨⟨by decide +kernel, by decide +kernel⟩, List.mem_of_getElem? (i := 22) (by decide +kernel), List.mem_of_getElem? (i := 903) (by decide +kernel), List.mem_of_getElem? (i := 904) (by decide +kernel)⟩
theorem lw_p57 : lw_okq (⟨"TimeGaps", "isNeeded", "(I)Z"⟩, 9) := ⟨⟨by decide +kernel, by decide +kernel⟩, List.mem_of_getElem? (i := 22) (by decide +kernel), List.mem_of_getElem? (i := 907) (by decide +kernel), List.mem_of_getElem? (i := 908) (by decide +kernel)⟩
theorem lw_p58 : lw_okq (⟨"TimeGaps$Net", "countSettled", "()I"⟩, 7) := ⟨⟨by decide +kernel, by decide +kernel⟩, List.mem_of_getElem? (i := 126) (by decide +kernel), List.mem_of_getElem? (i := 911) (by decide +kernel), List.mem_of_getElem? (i := 912) (by decide +kernel)⟩
theorem lw_p59 : lw_okq (⟨"TimeGaps$Net", "possibleTimes", "(I)I"⟩, 7) := ⟨⟨by decide +kernel, by decide +kernel⟩, List.mem_of_getElem? (i := 126) (by decide +kernel), List.mem_of_getElem? (i := 915) (by decide +kernel), List.mem_of_getElem? (i := 916) (by decide +kernel)⟩
theorem lw_p60 : lw_okq (⟨"TimeGaps$Net", "greatestEarliest", "()I"⟩, 7) := ⟨⟨by decide +kernel, by decide +kernel⟩, List.mem_of_getElem? (i := 126) (by decide +kernel), List.mem_of_getElem? (i := 920) (by decide +kernel), List.mem_of_getElem? (i := 921) (by decide +kernel)⟩
theorem lw_p61 : lw_okq (⟨"TimeGaps$Net", "room", "()I"⟩, 7) := ⟨⟨by decide +kernel, by decide +kernel⟩, List.mem_of_getElem? (i := 126) (by decide +kernel), List.mem_of_getElem? (i := 925) (by decide +kernel), List.mem_of_getElem? (i := 926) (by decide +kernel)⟩
theorem lw_p62 : lw_okq (⟨"TimeGaps", "isTellable", "(IIII)Z"⟩, 9) := ⟨⟨by decide +kernel, by decide +kernel⟩, List.mem_of_getElem? (i := 22) (by decide +kernel), List.mem_of_getElem? (i := 933) (by decide +kernel), List.mem_of_getElem? (i := 934) (by decide +kernel)⟩
theorem lw_p63 : lw_okq (⟨"TimeGaps", "areTwoEvents", "(II)Z"⟩, 9) := ⟨⟨by decide +kernel, by decide +kernel⟩, List.mem_of_getElem? (i := 22) (by decide +kernel), List.mem_of_getElem? (i := 937) (by decide +kernel), List.mem_of_getElem? (i := 938) (by decide +kernel)⟩
def lw_privs_4 : List (MethodName × Nat) := [(⟨"TimeGaps$Plan", "countOn", "()I"⟩, 12), (⟨"TimeGaps$Plan", "countPinned", "()I"⟩, 12), (⟨"TimeGaps", "countTight", "()I"⟩, 9), (⟨"TimeGaps", "isTight", "(I)Z"⟩, 9), (⟨"TimeGaps", "lengthOf", "(I)I"⟩, 9), (⟨"TimeGaps", "boundOf", "(I)I"⟩, 9), (⟨"TimeGaps", "beginOf", "(I)I"⟩, 9), (⟨"TimeGaps", "finishOf", "(I)I"⟩, 9), (⟨"TimeGaps", "countNeeded", "()I"⟩, 9), (⟨"TimeGaps", "isNeeded", "(I)Z"⟩, 9), (⟨"TimeGaps$Net", "countSettled", "()I"⟩, 7), (⟨"TimeGaps$Net", "possibleTimes", "(I)I"⟩, 7), (⟨"TimeGaps$Net", "greatestEarliest", "()I"⟩, 7), (⟨"TimeGaps$Net", "room", "()I"⟩, 7), (⟨"TimeGaps", "isTellable", "(IIII)Z"⟩, 9), (⟨"TimeGaps", "areTwoEvents", "(II)Z"⟩, 9)]
theorem lw_r4 : ∀ q ∈ lw_privs_4, lw_okq q := List.forall_mem_cons.mpr ⟨lw_p48, List.forall_mem_cons.mpr ⟨lw_p49, List.forall_mem_cons.mpr ⟨lw_p50, List.forall_mem_cons.mpr ⟨lw_p51, List.forall_mem_cons.mpr ⟨lw_p52, List.forall_mem_cons.mpr ⟨lw_p53, List.forall_mem_cons.mpr ⟨lw_p54, List.forall_mem_cons.mpr ⟨lw_p55, List.forall_mem_cons.mpr ⟨lw_p56, List.forall_mem_cons.mpr ⟨lw_p57, List.forall_mem_cons.mpr ⟨lw_p58, List.forall_mem_cons.mpr ⟨lw_p59, List.forall_mem_cons.mpr ⟨lw_p60, List.forall_mem_cons.mpr ⟨lw_p61, List.forall_mem_cons.mpr ⟨lw_p62, List.forall_mem_cons.mpr ⟨lw_p63, fun _ h => absurd h List.not_mem_nil⟩⟩⟩⟩⟩⟩⟩⟩⟩⟩⟩⟩⟩⟩⟩⟩
theorem lw_p64 : lw_okq (⟨"TimeGaps", "isEvent", "(I)Z"⟩, 9) := ⟨⟨by decide +kernel, by decide +kernel⟩, List.mem_of_getElem? (i := 22) (by decide +kernel), List.mem_of_getElem? (i := 941) (by decide +kernel), List.mem_of_getElem? (i := 942) (by decide +kernel)⟩
theorem lw_p65 : lw_okq (⟨"TimeGaps$History", "remember", "(LTimeGaps$Plan;)V"⟩, 3) := ⟨⟨by decide +kernel, by decide +kernel⟩, List.mem_of_getElem? (i := 155) (by decide +kernel), List.mem_of_getElem? (i := 951) (by decide +kernel), List.mem_of_getElem? (i := 952) (by decide +kernel)⟩
theorem lw_p66 : lw_okq (⟨"TimeGaps$Log", "note", "(III)V"⟩, 3) := ⟨⟨by decide +kernel, by decide +kernel⟩, List.mem_of_getElem? (i := 36) (by decide +kernel), List.mem_of_getElem? (i := 957) (by decide +kernel), List.mem_of_getElem? (i := 958) (by decide +kernel)⟩
theorem lw_p67 : lw_okq (⟨"TimeGaps", "finish", "(III)V"⟩, 9) := ⟨⟨by decide +kernel, by decide +kernel⟩, List.mem_of_getElem? (i := 22) (by decide +kernel), List.mem_of_getElem? (i := 962) (by decide +kernel), List.mem_of_getElem? (i := 963) (by decide +kernel)⟩
theorem lw_p68 : lw_okq (⟨"TimeGaps", "isGap", "(I)Z"⟩, 9) := ⟨⟨by decide +kernel, by decide +kernel⟩, List.mem_of_getElem? (i := 22) (by decide +kernel), List.mem_of_getElem? (i := 970) (by decide +kernel), List.mem_of_getElem? (i := 971) (by decide +kernel)⟩
theorem lw_p69 : lw_okq (⟨"TimeGaps$Plan", "removeGap", "(I)V"⟩, 12) := ⟨⟨by decide +kernel, by decide +kernel⟩, List.mem_of_getElem? (i := 30) (by decide +kernel), List.mem_of_getElem? (i := 974) (by decide +kernel), List.mem_of_getElem? (i := 975) (by decide +kernel)⟩
theorem lw_p70 : lw_okq (⟨"TimeGaps", "ringOfGap", "(II)I"⟩, 9) := ⟨⟨by decide +kernel, by decide +kernel⟩, List.mem_of_getElem? (i := 22) (by decide +kernel), List.mem_of_getElem? (i := 982) (by decide +kernel), List.mem_of_getElem? (i := 983) (by decide +kernel)⟩
theorem lw_p71 : lw_okq (⟨"TimeGaps", "isTime", "(I)Z"⟩, 9) := ⟨⟨by decide +kernel, by decide +kernel⟩, List.mem_of_getElem? (i := 22) (by decide +kernel), List.mem_of_getElem? (i := 994) (by decide +kernel), List.mem_of_getElem? (i := 995) (by decide +kernel)⟩
theorem lw_p72 : lw_okq (⟨"TimeGaps", "isPinnable", "(I)Z"⟩, 9) := ⟨⟨by decide +kernel, by decide +kernel⟩, List.mem_of_getElem? (i := 22) (by decide +kernel), List.mem_of_getElem? (i := 998) (by decide +kernel), List.mem_of_getElem? (i := 999) (by decide +kernel)⟩
theorem lw_p73 : lw_okq (⟨"TimeGaps", "tryWithout", "(I)V"⟩, 9) := ⟨⟨by decide +kernel, by decide +kernel⟩, List.mem_of_getElem? (i := 22) (by decide +kernel), List.mem_of_getElem? (i := 1016) (by decide +kernel), List.mem_of_getElem? (i := 1017) (by decide +kernel)⟩
theorem lw_p74 : lw_okq (⟨"TimeGaps$Net", "copyBounds", "(LTimeGaps$Net;)V"⟩, 7) := ⟨⟨by decide +kernel, by decide +kernel⟩, List.mem_of_getElem? (i := 126) (by decide +kernel), List.mem_of_getElem? (i := 1020) (by decide +kernel), List.mem_of_getElem? (i := 1021) (by decide +kernel)⟩
theorem lw_p75 : lw_okq (⟨"TimeGaps", "isLoose", "(I)Z"⟩, 9) := ⟨⟨by decide +kernel, by decide +kernel⟩, List.mem_of_getElem? (i := 22) (by decide +kernel), List.mem_of_getElem? (i := 1029) (by decide +kernel), List.mem_of_getElem? (i := 1030) (by decide +kernel)⟩
theorem lw_p76 : lw_okq (⟨"TimeGaps", "tightNumber", "(I)I"⟩, 9) := ⟨⟨by decide +kernel, by decide +kernel⟩, List.mem_of_getElem? (i := 22) (by decide +kernel), List.mem_of_getElem? (i := 1033) (by decide +kernel), List.mem_of_getElem? (i := 1034) (by decide +kernel)⟩
theorem lw_p77 : lw_okq (⟨"TimeGaps", "firstNeedless", "(I)I"⟩, 9) := ⟨⟨by decide +kernel, by decide +kernel⟩, List.mem_of_getElem? (i := 22) (by decide +kernel), List.mem_of_getElem? (i := 1041) (by decide +kernel), List.mem_of_getElem? (i := 1042) (by decide +kernel)⟩
theorem lw_p78 : lw_okq (⟨"TimeGaps", "isNewNameOnTape", "()Z"⟩, 9) := ⟨⟨by decide +kernel, by decide +kernel⟩, List.mem_of_getElem? (i := 22) (by decide +kernel), List.mem_of_getElem? (i := 1055) (by decide +kernel), List.mem_of_getElem? (i := 1056) (by decide +kernel)⟩
theorem lw_p79 : lw_okq (⟨"TimeGaps$Plan", "countOnOf", "(I)I"⟩, 12) := ⟨⟨by decide +kernel, by decide +kernel⟩, List.mem_of_getElem? (i := 30) (by decide +kernel), List.mem_of_getElem? (i := 1086) (by decide +kernel), List.mem_of_getElem? (i := 1087) (by decide +kernel)⟩
def lw_privs_5 : List (MethodName × Nat) := [(⟨"TimeGaps", "isEvent", "(I)Z"⟩, 9), (⟨"TimeGaps$History", "remember", "(LTimeGaps$Plan;)V"⟩, 3), (⟨"TimeGaps$Log", "note", "(III)V"⟩, 3), (⟨"TimeGaps", "finish", "(III)V"⟩, 9), (⟨"TimeGaps", "isGap", "(I)Z"⟩, 9), (⟨"TimeGaps$Plan", "removeGap", "(I)V"⟩, 12), (⟨"TimeGaps", "ringOfGap", "(II)I"⟩, 9), (⟨"TimeGaps", "isTime", "(I)Z"⟩, 9), (⟨"TimeGaps", "isPinnable", "(I)Z"⟩, 9), (⟨"TimeGaps", "tryWithout", "(I)V"⟩, 9), (⟨"TimeGaps$Net", "copyBounds", "(LTimeGaps$Net;)V"⟩, 7), (⟨"TimeGaps", "isLoose", "(I)Z"⟩, 9), (⟨"TimeGaps", "tightNumber", "(I)I"⟩, 9), (⟨"TimeGaps", "firstNeedless", "(I)I"⟩, 9), (⟨"TimeGaps", "isNewNameOnTape", "()Z"⟩, 9), (⟨"TimeGaps$Plan", "countOnOf", "(I)I"⟩, 12)]
theorem lw_r5 : ∀ q ∈ lw_privs_5, lw_okq q := List.forall_mem_cons.mpr ⟨lw_p64, List.forall_mem_cons.mpr ⟨lw_p65, List.forall_mem_cons.mpr ⟨lw_p66, List.forall_mem_cons.mpr ⟨lw_p67, List.forall_mem_cons.mpr ⟨lw_p68, List.forall_mem_cons.mpr ⟨lw_p69, List.forall_mem_cons.mpr ⟨lw_p70, List.forall_mem_cons.mpr ⟨lw_p71, List.forall_mem_cons.mpr ⟨lw_p72, List.forall_mem_cons.mpr ⟨lw_p73, List.forall_mem_cons.mpr ⟨lw_p74, List.forall_mem_cons.mpr ⟨lw_p75, List.forall_mem_cons.mpr ⟨lw_p76, List.forall_mem_cons.mpr ⟨lw_p77, List.forall_mem_cons.mpr ⟨lw_p78, List.forall_mem_cons.mpr ⟨lw_p79, fun _ h => absurd h List.not_mem_nil⟩⟩⟩⟩⟩⟩⟩⟩⟩⟩⟩⟩⟩⟩⟩⟩
theorem lw_p80 : lw_okq (⟨"TimeGaps$Plan", "hasEvent", "(II)Z"⟩, 12) := ⟨⟨by decide +kernel, by decide +kernel⟩, List.mem_of_getElem? (i := 30) (by decide +kernel), List.mem_of_getElem? (i := 1090) (by decide +kernel), List.mem_of_getElem? (i := 1091) (by decide +kernel)⟩
theorem lw_p81 : lw_okq (⟨"TimeGaps$Net", "stepsBetween", "(II)I"⟩, 7) := ⟨⟨by decide +kernel, by decide +kernel⟩, List.mem_of_getElem? (i := 126) (by decide +kernel), List.mem_of_getElem? (i := 1112) (by decide +kernel), List.mem_of_getElem? (i := 1113) (by decide +kernel)⟩
theorem lw_p82 : lw_okq (⟨"TimeGaps$Net", "stepOfWay", "(III)I"⟩, 7) := ⟨⟨by decide +kernel, by decide +kernel⟩, List.mem_of_getElem? (i := 126) (by decide +kernel), List.mem_of_getElem? (i := 1123) (by decide +kernel), List.mem_of_getElem? (i := 1124) (by decide +kernel)⟩
theorem lw_p83 : lw_okq (⟨"TimeGaps$Net", "firstStep", "(II)I"⟩, 7) := ⟨⟨by decide +kernel, by decide +kernel⟩, List.mem_of_getElem? (i := 126) (by decide +kernel), List.mem_of_getElem? (i := 1127) (by decide +kernel), List.mem_of_getElem? (i := 1128) (by decide +kernel)⟩
theorem lw_p84 : lw_okq (⟨"TimeGaps", "relationOf", "(II)I"⟩, 9) := ⟨⟨by decide +kernel, by decide +kernel⟩, List.mem_of_getElem? (i := 22) (by decide +kernel), List.mem_of_getElem? (i := 1138) (by decide +kernel), List.mem_of_getElem? (i := 1139) (by decide +kernel)⟩
theorem lw_p85 : lw_okq (⟨"TimeGaps$Log", "part", "(II)I"⟩, 3) := ⟨⟨by decide +kernel, by decide +kernel⟩, List.mem_of_getElem? (i := 36) (by decide +kernel), List.mem_of_getElem? (i := 1169) (by decide +kernel), List.mem_of_getElem? (i := 1170) (by decide +kernel)⟩
theorem lw_p86 : lw_okq (⟨"TimeGaps$Net", "oneStepDenies", "(IIII)Z"⟩, 7) := ⟨⟨by decide +kernel, by decide +kernel⟩, List.mem_of_getElem? (i := 126) (by decide +kernel), List.mem_of_getElem? (i := 1180) (by decide +kernel), List.mem_of_getElem? (i := 1181) (by decide +kernel)⟩
theorem lw_p87 : lw_okq (⟨"TimeGaps", "stepOfRing", "(IIII)I"⟩, 9) := ⟨⟨by decide +kernel, by decide +kernel⟩, List.mem_of_getElem? (i := 22) (by decide +kernel), List.mem_of_getElem? (i := 1184) (by decide +kernel), List.mem_of_getElem? (i := 1185) (by decide +kernel)⟩
theorem lw_p88 : lw_okq (⟨"TimeGaps", "changeOnTrial", "(I)I"⟩, 9) := ⟨⟨by decide +kernel, by decide +kernel⟩, List.mem_of_getElem? (i := 22) (by decide +kernel), List.mem_of_getElem? (i := 1196) (by decide +kernel), List.mem_of_getElem? (i := 1197) (by decide +kernel)⟩
theorem lw_p89 : lw_okq (⟨"TimeGaps$Net", "countOtherBounds", "(LTimeGaps$Net;)I"⟩, 7) := ⟨⟨by decide +kernel, by decide +kernel⟩, List.mem_of_getElem? (i := 126) (by decide +kernel), List.mem_of_getElem? (i := 1200) (by decide +kernel), List.mem_of_getElem? (i := 1201) (by decide +kernel)⟩
theorem lw_p90 : lw_okq (⟨"TimeGaps$Net", "countOtherTimes", "(LTimeGaps$Net;)I"⟩, 7) := ⟨⟨by decide +kernel, by decide +kernel⟩, List.mem_of_getElem? (i := 126) (by decide +kernel), List.mem_of_getElem? (i := 1204) (by decide +kernel), List.mem_of_getElem? (i := 1205) (by decide +kernel)⟩
theorem lw_p91 : lw_okq (⟨"TimeGaps", "tightestNumber", "(III)I"⟩, 9) := ⟨⟨by decide +kernel, by decide +kernel⟩, List.mem_of_getElem? (i := 22) (by decide +kernel), List.mem_of_getElem? (i := 1216) (by decide +kernel), List.mem_of_getElem? (i := 1217) (by decide +kernel)⟩
theorem lw_p92 : lw_okq (⟨"TimeGaps$History", "bringBack", "(LTimeGaps$Plan;)V"⟩, 3) := ⟨⟨by decide +kernel, by decide +kernel⟩, List.mem_of_getElem? (i := 155) (by decide +kernel), List.mem_of_getElem? (i := 1233) (by decide +kernel), List.mem_of_getElem? (i := 1234) (by decide +kernel)⟩
theorem lw_p93 : lw_okq (⟨"TimeGaps$Net", "placeByEarliest", "(I)I"⟩, 7) := ⟨⟨by decide +kernel, by decide +kernel⟩, List.mem_of_getElem? (i := 126) (by decide +kernel), List.mem_of_getElem? (i := 1269) (by decide +kernel), List.mem_of_getElem? (i := 1270) (by decide +kernel)⟩
theorem lw_p94 : lw_okq (⟨"TimeGaps$Net", "placeByLatest", "(I)I"⟩, 7) := ⟨⟨by decide +kernel, by decide +kernel⟩, List.mem_of_getElem? (i := 126) (by decide +kernel), List.mem_of_getElem? (i := 1281) (by decide +kernel), List.mem_of_getElem? (i := 1282) (by decide +kernel)⟩
theorem lw_p95 : lw_okq (⟨"TimeGaps$Text", "writeList", "(LTimeGaps$Plan;LTimeGaps$Net;)V"⟩, 2) := ⟨⟨by decide +kernel, by decide +kernel⟩, List.mem_of_getElem? (i := 237) (by decide +kernel), List.mem_of_getElem? (i := 1316) (by decide +kernel), List.mem_of_getElem? (i := 1317) (by decide +kernel)⟩
def lw_privs_6 : List (MethodName × Nat) := [(⟨"TimeGaps$Plan", "hasEvent", "(II)Z"⟩, 12), (⟨"TimeGaps$Net", "stepsBetween", "(II)I"⟩, 7), (⟨"TimeGaps$Net", "stepOfWay", "(III)I"⟩, 7), (⟨"TimeGaps$Net", "firstStep", "(II)I"⟩, 7), (⟨"TimeGaps", "relationOf", "(II)I"⟩, 9), (⟨"TimeGaps$Log", "part", "(II)I"⟩, 3), (⟨"TimeGaps$Net", "oneStepDenies", "(IIII)Z"⟩, 7), (⟨"TimeGaps", "stepOfRing", "(IIII)I"⟩, 9), (⟨"TimeGaps", "changeOnTrial", "(I)I"⟩, 9), (⟨"TimeGaps$Net", "countOtherBounds", "(LTimeGaps$Net;)I"⟩, 7), (⟨"TimeGaps$Net", "countOtherTimes", "(LTimeGaps$Net;)I"⟩, 7), (⟨"TimeGaps", "tightestNumber", "(III)I"⟩, 9), (⟨"TimeGaps$History", "bringBack", "(LTimeGaps$Plan;)V"⟩, 3), (⟨"TimeGaps$Net", "placeByEarliest", "(I)I"⟩, 7), (⟨"TimeGaps$Net", "placeByLatest", "(I)I"⟩, 7), (⟨"TimeGaps$Text", "writeList", "(LTimeGaps$Plan;LTimeGaps$Net;)V"⟩, 2)]
theorem lw_r6 : ∀ q ∈ lw_privs_6, lw_okq q := List.forall_mem_cons.mpr ⟨lw_p80, List.forall_mem_cons.mpr ⟨lw_p81, List.forall_mem_cons.mpr ⟨lw_p82, List.forall_mem_cons.mpr ⟨lw_p83, List.forall_mem_cons.mpr ⟨lw_p84, List.forall_mem_cons.mpr ⟨lw_p85, List.forall_mem_cons.mpr ⟨lw_p86, List.forall_mem_cons.mpr ⟨lw_p87, List.forall_mem_cons.mpr ⟨lw_p88, List.forall_mem_cons.mpr ⟨lw_p89, List.forall_mem_cons.mpr ⟨lw_p90, List.forall_mem_cons.mpr ⟨lw_p91, List.forall_mem_cons.mpr ⟨lw_p92, List.forall_mem_cons.mpr ⟨lw_p93, List.forall_mem_cons.mpr ⟨lw_p94, List.forall_mem_cons.mpr ⟨lw_p95, fun _ h => absurd h List.not_mem_nil⟩⟩⟩⟩⟩⟩⟩⟩⟩⟩⟩⟩⟩⟩⟩⟩
theorem lw_p96 : lw_okq (⟨"TimeGaps$Text", "putName", "(LTimeGaps$Plan;I)V"⟩, 2) := ⟨⟨by decide +kernel, by decide +kernel⟩, List.mem_of_getElem? (i := 237) (by decide +kernel), List.mem_of_getElem? (i := 1320) (by decide +kernel), List.mem_of_getElem? (i := 1321) (by decide +kernel)⟩
theorem lw_p97 : lw_okq (⟨"TimeGaps$Text", "put", "(I)V"⟩, 2) := ⟨⟨by decide +kernel, by decide +kernel⟩, List.mem_of_getElem? (i := 237) (by decide +kernel), List.mem_of_getElem? (i := 1325) (by decide +kernel), List.mem_of_getElem? (i := 1326) (by decide +kernel)⟩
theorem lw_p98 : lw_okq (⟨"TimeGaps$Text", "putNumber", "(I)V"⟩, 2) := ⟨⟨by decide +kernel, by decide +kernel⟩, List.mem_of_getElem? (i := 237) (by decide +kernel), List.mem_of_getElem? (i := 1330) (by decide +kernel), List.mem_of_getElem? (i := 1331) (by decide +kernel)⟩
theorem lw_p99 : lw_okq (⟨"TimeGaps$Text", "writeSetup", "(LTimeGaps$Plan;)V"⟩, 2) := ⟨⟨by decide +kernel, by decide +kernel⟩, List.mem_of_getElem? (i := 237) (by decide +kernel), List.mem_of_getElem? (i := 1340) (by decide +kernel), List.mem_of_getElem? (i := 1341) (by decide +kernel)⟩
theorem lw_p100 : lw_okq (⟨"TimeGaps$Text", "putWord", "(Ljava/lang/String;)V"⟩, 2) := ⟨⟨by decide +kernel, by decide +kernel⟩, List.mem_of_getElem? (i := 237) (by decide +kernel), List.mem_of_getElem? (i := 1345) (by decide +kernel), List.mem_of_getElem? (i := 1346) (by decide +kernel)⟩
theorem lw_p101 : lw_okq (⟨"TimeGaps$Text", "putGap", "(LTimeGaps$Plan;I)V"⟩, 2) := ⟨⟨by decide +kernel, by decide +kernel⟩, List.mem_of_getElem? (i := 237) (by decide +kernel), List.mem_of_getElem? (i := 1352) (by decide +kernel), List.mem_of_getElem? (i := 1353) (by decide +kernel)⟩
theorem lw_p102 : lw_okq (⟨"TimeGaps$Text", "byteAt", "(I)I"⟩, 2) := ⟨⟨by decide +kernel, by decide +kernel⟩, List.mem_of_getElem? (i := 237) (by decide +kernel), List.mem_of_getElem? (i := 1365) (by decide +kernel), List.mem_of_getElem? (i := 1366) (by decide +kernel)⟩
def lw_privs_7 : List (MethodName × Nat) := [(⟨"TimeGaps$Text", "putName", "(LTimeGaps$Plan;I)V"⟩, 2), (⟨"TimeGaps$Text", "put", "(I)V"⟩, 2), (⟨"TimeGaps$Text", "putNumber", "(I)V"⟩, 2), (⟨"TimeGaps$Text", "writeSetup", "(LTimeGaps$Plan;)V"⟩, 2), (⟨"TimeGaps$Text", "putWord", "(Ljava/lang/String;)V"⟩, 2), (⟨"TimeGaps$Text", "putGap", "(LTimeGaps$Plan;I)V"⟩, 2), (⟨"TimeGaps$Text", "byteAt", "(I)I"⟩, 2)]
theorem lw_r7 : ∀ q ∈ lw_privs_7, lw_okq q := List.forall_mem_cons.mpr ⟨lw_p96, List.forall_mem_cons.mpr ⟨lw_p97, List.forall_mem_cons.mpr ⟨lw_p98, List.forall_mem_cons.mpr ⟨lw_p99, List.forall_mem_cons.mpr ⟨lw_p100, List.forall_mem_cons.mpr ⟨lw_p101, List.forall_mem_cons.mpr ⟨lw_p102, fun _ h => absurd h List.not_mem_nil⟩⟩⟩⟩⟩⟩⟩
def lw_privs : List (MethodName × Nat) := lw_privs_1 ++ (lw_privs_2 ++ (lw_privs_3 ++ (lw_privs_4 ++ (lw_privs_5 ++ (lw_privs_6 ++ (lw_privs_7))))))
def lw_tbl : List Cond := k2_sels lw_privs ++ tables_1
theorem lw_privs_ok : ∀ q ∈ lw_privs, lw_okq q := by
  show ∀ q ∈ lw_privs_1 ++ (lw_privs_2 ++ (lw_privs_3 ++ (lw_privs_4 ++ (lw_privs_5 ++ (lw_privs_6 ++ (lw_privs_7)))))), lw_okq q
  exact List.forall_mem_append.mpr ⟨lw_r1, List.forall_mem_append.mpr ⟨lw_r2, List.forall_mem_append.mpr ⟨lw_r3, List.forall_mem_append.mpr ⟨lw_r4, List.forall_mem_append.mpr ⟨lw_r5, List.forall_mem_append.mpr ⟨lw_r6, lw_r7⟩⟩⟩⟩⟩⟩
/-- the streams that the claim lets the run draw from -/
abbrev lw_cs : List Choice := [Jvm.Choice.named "NaN.bits"]
theorem lw_bits : nanBits ∈ lw_cs := by first | decide | exact List.mem_cons_self | simp [lw_cs, nanBits]
-- ===== end of PART A; then your names; then what follows =====
def RX0 : String := "TimeGaps$History"
def TX0 : u_T := fun k => match k with
  | 0 => ("TimeGaps$History", "plans", "[LTimeGaps$Plan;", true)
  | 1 => ("TimeGaps$History", "oldest", "I", false)
  | _ => ("TimeGaps$History", "count", "I", false)
def tyX0 : Nat → FieldType := fun k => match k with
  | 0 => .array (.object "TimeGaps$Plan")
  | 1 => .int
  | _ => .int
abbrev wsX00 : List Cond := u_ws RX0 TX0 3
theorem nmX0 : ∀ a, a < 3 → ∀ b, b < 3 → a ≠ b → (TX0 a).2.1 ≠ (TX0 b).2.1 := by decide +kernel
theorem tyX0_ok : ∀ k, k < 3 → parseFieldDescriptor (TX0 k).2.2.1 = some (tyX0 k) := by decide +kernel
abbrev cX0_init : ByteArray := prog_2_method_1_code
def yX0_init : MethodName := ⟨RX0, "<init>", "()V"⟩
abbrev cX0_clear : ByteArray := prog_2_method_2_code
def yX0_clear : MethodName := ⟨RX0, "clear", "()V"⟩
abbrev cX0_remember : ByteArray := prog_2_method_3_code
def yX0_remember : MethodName := ⟨RX0, "remember", "(LTimeGaps$Plan;)V"⟩
abbrev cX0_bringBack : ByteArray := prog_2_method_4_code
def yX0_bringBack : MethodName := ⟨RX0, "bringBack", "(LTimeGaps$Plan;)V"⟩
def RX1 : String := "TimeGaps$Log"
def TX1 : u_T := fun k => match k with
  | 0 => ("TimeGaps$Log", "parts", "[I", true)
  | 1 => ("TimeGaps$Log", "oldest", "I", false)
  | _ => ("TimeGaps$Log", "count", "I", false)
def tyX1 : Nat → FieldType := fun k => match k with
  | 0 => .array .int
  | 1 => .int
  | _ => .int
abbrev wsX10 : List Cond := u_ws RX1 TX1 3
theorem nmX1 : ∀ a, a < 3 → ∀ b, b < 3 → a ≠ b → (TX1 a).2.1 ≠ (TX1 b).2.1 := by decide +kernel
theorem tyX1_ok : ∀ k, k < 3 → parseFieldDescriptor (TX1 k).2.2.1 = some (tyX1 k) := by decide +kernel
abbrev cX1_init : ByteArray := prog_3_method_1_code
def yX1_init : MethodName := ⟨RX1, "<init>", "()V"⟩
abbrev cX1_clear : ByteArray := prog_3_method_2_code
def yX1_clear : MethodName := ⟨RX1, "clear", "()V"⟩
abbrev cX1_copyFrom : ByteArray := prog_3_method_3_code
def yX1_copyFrom : MethodName := ⟨RX1, "copyFrom", "(LTimeGaps$Log;)V"⟩
abbrev cX1_note : ByteArray := prog_3_method_4_code
def yX1_note : MethodName := ⟨RX1, "note", "(III)V"⟩
abbrev cX1_part : ByteArray := prog_3_method_5_code
def yX1_part : MethodName := ⟨RX1, "part", "(II)I"⟩
def RX2 : String := "TimeGaps$Net"
def TX2 : u_T := fun k => match k with
  | 0 => ("TimeGaps$Net", "begins", "[I", true)
  | 1 => ("TimeGaps$Net", "finishes", "[I", true)
  | 2 => ("TimeGaps$Net", "lengths", "[I", true)
  | 3 => ("TimeGaps$Net", "codes", "[I", true)
  | 4 => ("TimeGaps$Net", "weights", "[I", true)
  | 5 => ("TimeGaps$Net", "steps", "I", false)
  | _ => ("TimeGaps$Net", "events", "I", false)
def tyX2 : Nat → FieldType := fun k => match k with
  | 0 => .array .int
  | 1 => .array .int
  | 2 => .array .int
  | 3 => .array .int
  | 4 => .array .int
  | 5 => .int
  | _ => .int
abbrev wsX20 : List Cond := u_ws RX2 TX2 7
theorem nmX2 : ∀ a, a < 7 → ∀ b, b < 7 → a ≠ b → (TX2 a).2.1 ≠ (TX2 b).2.1 := by decide +kernel
theorem tyX2_ok : ∀ k, k < 7 → parseFieldDescriptor (TX2 k).2.2.1 = some (tyX2 k) := by decide +kernel
abbrev cX2_init : ByteArray := prog_4_method_1_code
def yX2_init : MethodName := ⟨RX2, "<init>", "()V"⟩
abbrev cX2_build : ByteArray := prog_4_method_2_code
def yX2_build : MethodName := ⟨RX2, "build", "(LTimeGaps$Plan;I)V"⟩
abbrev cX2_collectSteps : ByteArray := prog_4_method_3_code
def yX2_collectSteps : MethodName := ⟨RX2, "collectSteps", "(LTimeGaps$Plan;I)V"⟩
abbrev cX2_collect : ByteArray := prog_4_method_4_code
def yX2_collect : MethodName := ⟨RX2, "collect", "(IIII)V"⟩
abbrev cX2_startWeights : ByteArray := prog_4_method_5_code
def yX2_startWeights : MethodName := ⟨RX2, "startWeights", "()V"⟩
abbrev cX2_closeWeights : ByteArray := prog_4_method_6_code
def yX2_closeWeights : MethodName := ⟨RX2, "closeWeights", "()V"⟩
abbrev cX2_copyBounds : ByteArray := prog_4_method_7_code
def yX2_copyBounds : MethodName := ⟨RX2, "copyBounds", "(LTimeGaps$Net;)V"⟩
abbrev cX2_addStep : ByteArray := prog_4_method_8_code
def yX2_addStep : MethodName := ⟨RX2, "addStep", "(III)V"⟩
abbrev cX2_addGapStep : ByteArray := prog_4_method_9_code
def yX2_addGapStep : MethodName := ⟨RX2, "addGapStep", "(IIII)V"⟩
abbrev cX2_addPin : ByteArray := prog_4_method_10_code
def yX2_addPin : MethodName := ⟨RX2, "addPin", "(II)V"⟩
abbrev cX2_weightOf : ByteArray := prog_4_method_11_code
def yX2_weightOf : MethodName := ⟨RX2, "weightOf", "(I)I"⟩
abbrev cX2_between : ByteArray := prog_4_method_12_code
def yX2_between : MethodName := ⟨RX2, "between", "(II)I"⟩
abbrev cX2_stepsBetween : ByteArray := prog_4_method_13_code
def yX2_stepsBetween : MethodName := ⟨RX2, "stepsBetween", "(II)I"⟩
abbrev cX2_earliest : ByteArray := prog_4_method_14_code
def yX2_earliest : MethodName := ⟨RX2, "earliest", "(I)I"⟩
abbrev cX2_latest : ByteArray := prog_4_method_15_code
def yX2_latest : MethodName := ⟨RX2, "latest", "(I)I"⟩
abbrev cX2_possibleTimes : ByteArray := prog_4_method_16_code
def yX2_possibleTimes : MethodName := ⟨RX2, "possibleTimes", "(I)I"⟩
abbrev cX2_allows : ByteArray := prog_4_method_17_code
def yX2_allows : MethodName := ⟨RX2, "allows", "(II)Z"⟩
abbrev cX2_leastRing : ByteArray := prog_4_method_18_code
def yX2_leastRing : MethodName := ⟨RX2, "leastRing", "(IIII)I"⟩
abbrev cX2_oneStepDenies : ByteArray := prog_4_method_19_code
def yX2_oneStepDenies : MethodName := ⟨RX2, "oneStepDenies", "(IIII)Z"⟩
abbrev cX2_stepOfWay : ByteArray := prog_4_method_20_code
def yX2_stepOfWay : MethodName := ⟨RX2, "stepOfWay", "(III)I"⟩
abbrev cX2_firstStep : ByteArray := prog_4_method_21_code
def yX2_firstStep : MethodName := ⟨RX2, "firstStep", "(II)I"⟩
abbrev cX2_countSettled : ByteArray := prog_4_method_22_code
def yX2_countSettled : MethodName := ⟨RX2, "countSettled", "()I"⟩
abbrev cX2_greatestEarliest : ByteArray := prog_4_method_23_code
def yX2_greatestEarliest : MethodName := ⟨RX2, "greatestEarliest", "()I"⟩
abbrev cX2_room : ByteArray := prog_4_method_24_code
def yX2_room : MethodName := ⟨RX2, "room", "()I"⟩
abbrev cX2_placeByEarliest : ByteArray := prog_4_method_25_code
def yX2_placeByEarliest : MethodName := ⟨RX2, "placeByEarliest", "(I)I"⟩
abbrev cX2_placeByLatest : ByteArray := prog_4_method_26_code
def yX2_placeByLatest : MethodName := ⟨RX2, "placeByLatest", "(I)I"⟩
abbrev cX2_countOtherBounds : ByteArray := prog_4_method_27_code
def yX2_countOtherBounds : MethodName := ⟨RX2, "countOtherBounds", "(LTimeGaps$Net;)I"⟩
abbrev cX2_countOtherTimes : ByteArray := prog_4_method_28_code
def yX2_countOtherTimes : MethodName := ⟨RX2, "countOtherTimes", "(LTimeGaps$Net;)I"⟩
def RX3 : String := "TimeGaps$Plan"
def TX3 : u_T := fun k => match k with
  | 0 => ("TimeGaps$Plan", "letters", "[I", true)
  | 1 => ("TimeGaps$Plan", "letterCounts", "[I", true)
  | 2 => ("TimeGaps$Plan", "pinTimes", "[I", true)
  | 3 => ("TimeGaps$Plan", "ones", "[I", true)
  | 4 => ("TimeGaps$Plan", "others", "[I", true)
  | 5 => ("TimeGaps$Plan", "kinds", "[I", true)
  | 6 => ("TimeGaps$Plan", "numbers", "[I", true)
  | 7 => ("TimeGaps$Plan", "ons", "[Z", true)
  | 8 => ("TimeGaps$Plan", "log", "LTimeGaps$Log;", true)
  | 9 => ("TimeGaps$Plan", "endTime", "I", false)
  | 10 => ("TimeGaps$Plan", "events", "I", false)
  | _ => ("TimeGaps$Plan", "gaps", "I", false)
def tyX3 : Nat → FieldType := fun k => match k with
  | 0 => .array .int
  | 1 => .array .int
  | 2 => .array .int
  | 3 => .array .int
  | 4 => .array .int
  | 5 => .array .int
  | 6 => .array .int
  | 7 => .array .boolean
  | 8 => .object "TimeGaps$Log"
  | 9 => .int
  | 10 => .int
  | _ => .int
abbrev wsX30 : List Cond := u_ws RX3 TX3 12
theorem nmX3 : ∀ a, a < 12 → ∀ b, b < 12 → a ≠ b → (TX3 a).2.1 ≠ (TX3 b).2.1 := by decide +kernel
theorem tyX3_ok : ∀ k, k < 12 → parseFieldDescriptor (TX3 k).2.2.1 = some (tyX3 k) := by decide +kernel
abbrev cX3_init : ByteArray := prog_5_method_1_code
def yX3_init : MethodName := ⟨RX3, "<init>", "()V"⟩
abbrev cX3_clear : ByteArray := prog_5_method_2_code
def yX3_clear : MethodName := ⟨RX3, "clear", "()V"⟩
abbrev cX3_addStart : ByteArray := prog_5_method_3_code
def yX3_addStart : MethodName := ⟨RX3, "addStart", "()V"⟩
abbrev cX3_copyFrom : ByteArray := prog_5_method_4_code
def yX3_copyFrom : MethodName := ⟨RX3, "copyFrom", "(LTimeGaps$Plan;)V"⟩
abbrev cX3_addEvent : ByteArray := prog_5_method_5_code
def yX3_addEvent : MethodName := ⟨RX3, "addEvent", "(LTimeGaps$Tape;II)I"⟩
abbrev cX3_nameEvent : ByteArray := prog_5_method_6_code
def yX3_nameEvent : MethodName := ⟨RX3, "nameEvent", "(ILTimeGaps$Tape;II)V"⟩
abbrev cX3_letterOf : ByteArray := prog_5_method_7_code
def yX3_letterOf : MethodName := ⟨RX3, "letterOf", "(II)I"⟩
abbrev cX3_findEvent : ByteArray := prog_5_method_8_code
def yX3_findEvent : MethodName := ⟨RX3, "findEvent", "(LTimeGaps$Tape;II)I"⟩
abbrev cX3_isNamed : ByteArray := prog_5_method_9_code
def yX3_isNamed : MethodName := ⟨RX3, "isNamed", "(ILTimeGaps$Tape;II)Z"⟩
abbrev cX3_addGap : ByteArray := prog_5_method_10_code
def yX3_addGap : MethodName := ⟨RX3, "addGap", "(IIIIZ)I"⟩
abbrev cX3_removeGap : ByteArray := prog_5_method_11_code
def yX3_removeGap : MethodName := ⟨RX3, "removeGap", "(I)V"⟩
abbrev cX3_isPinned : ByteArray := prog_5_method_12_code
def yX3_isPinned : MethodName := ⟨RX3, "isPinned", "(I)Z"⟩
abbrev cX3_hasEvent : ByteArray := prog_5_method_13_code
def yX3_hasEvent : MethodName := ⟨RX3, "hasEvent", "(II)Z"⟩
abbrev cX3_countPinned : ByteArray := prog_5_method_14_code
def yX3_countPinned : MethodName := ⟨RX3, "countPinned", "()I"⟩
abbrev cX3_countOn : ByteArray := prog_5_method_15_code
def yX3_countOn : MethodName := ⟨RX3, "countOn", "()I"⟩
abbrev cX3_countOnOf : ByteArray := prog_5_method_16_code
def yX3_countOnOf : MethodName := ⟨RX3, "countOnOf", "(I)I"⟩
def RX4 : String := "TimeGaps$SetupReader"
def TX4 : u_T := fun k => match k with
  | 0 => ("TimeGaps$SetupReader", "tape", "LTimeGaps$Tape;", true)
  | 1 => ("TimeGaps$SetupReader", "draft", "LTimeGaps$Plan;", true)
  | 2 => ("TimeGaps$SetupReader", "net", "LTimeGaps$Net;", true)
  | 3 => ("TimeGaps$SetupReader", "token", "I", false)
  | 4 => ("TimeGaps$SetupReader", "tokenAt", "I", false)
  | _ => ("TimeGaps$SetupReader", "tokenLength", "I", false)
def tyX4 : Nat → FieldType := fun k => match k with
  | 0 => .object "TimeGaps$Tape"
  | 1 => .object "TimeGaps$Plan"
  | 2 => .object "TimeGaps$Net"
  | 3 => .int
  | 4 => .int
  | _ => .int
abbrev wsX40 : List Cond := u_ws RX4 TX4 6
theorem nmX4 : ∀ a, a < 6 → ∀ b, b < 6 → a ≠ b → (TX4 a).2.1 ≠ (TX4 b).2.1 := by decide +kernel
theorem tyX4_ok : ∀ k, k < 6 → parseFieldDescriptor (TX4 k).2.2.1 = some (tyX4 k) := by decide +kernel
abbrev cX4_init : ByteArray := prog_6_method_1_code
def yX4_init : MethodName := ⟨RX4, "<init>", "()V"⟩
abbrev cX4_read : ByteArray := prog_6_method_2_code
def yX4_read : MethodName := ⟨RX4, "read", "()Z"⟩
abbrev cX4_position : ByteArray := prog_6_method_3_code
def yX4_position : MethodName := ⟨RX4, "position", "()I"⟩
abbrev cX4_next : ByteArray := prog_6_method_4_code
def yX4_next : MethodName := ⟨RX4, "next", "()V"⟩
abbrev cX4_isHere : ByteArray := prog_6_method_5_code
def yX4_isHere : MethodName := ⟨RX4, "isHere", "(Ljava/lang/String;)Z"⟩
abbrev cX4_takeWord : ByteArray := prog_6_method_6_code
def yX4_takeWord : MethodName := ⟨RX4, "takeWord", "(Ljava/lang/String;)Z"⟩
abbrev cX4_takeSemicolon : ByteArray := prog_6_method_7_code
def yX4_takeSemicolon : MethodName := ⟨RX4, "takeSemicolon", "()Z"⟩
abbrev cX4_numberHere : ByteArray := prog_6_method_8_code
def yX4_numberHere : MethodName := ⟨RX4, "numberHere", "()I"⟩
abbrev cX4_eventHere : ByteArray := prog_6_method_9_code
def yX4_eventHere : MethodName := ⟨RX4, "eventHere", "()I"⟩
abbrev cX4_kindHere : ByteArray := prog_6_method_10_code
def yX4_kindHere : MethodName := ⟨RX4, "kindHere", "()I"⟩
abbrev cX4_readEnd : ByteArray := prog_6_method_11_code
def yX4_readEnd : MethodName := ⟨RX4, "readEnd", "()Z"⟩
abbrev cX4_readEvent : ByteArray := prog_6_method_12_code
def yX4_readEvent : MethodName := ⟨RX4, "readEvent", "()Z"⟩
abbrev cX4_readGap : ByteArray := prog_6_method_13_code
def yX4_readGap : MethodName := ⟨RX4, "readGap", "()Z"⟩
abbrev cX4_readPin : ByteArray := prog_6_method_14_code
def yX4_readPin : MethodName := ⟨RX4, "readPin", "()Z"⟩
def RX5 : String := "TimeGaps$Slots"
def TX5 : u_T := fun k => match k with
  | 0 => ("TimeGaps$Slots", "plans", "[LTimeGaps$Plan;", true)
  | _ => ("TimeGaps$Slots", "filled", "[Z", true)
def tyX5 : Nat → FieldType := fun k => match k with
  | 0 => .array (.object "TimeGaps$Plan")
  | _ => .array .boolean
abbrev wsX50 : List Cond := u_ws RX5 TX5 2
theorem nmX5 : ∀ a, a < 2 → ∀ b, b < 2 → a ≠ b → (TX5 a).2.1 ≠ (TX5 b).2.1 := by decide +kernel
theorem tyX5_ok : ∀ k, k < 2 → parseFieldDescriptor (TX5 k).2.2.1 = some (tyX5 k) := by decide +kernel
abbrev cX5_init : ByteArray := prog_7_method_1_code
def yX5_init : MethodName := ⟨RX5, "<init>", "()V"⟩
abbrev cX5_clear : ByteArray := prog_7_method_2_code
def yX5_clear : MethodName := ⟨RX5, "clear", "()V"⟩
def RX6 : String := "TimeGaps$Tape"
def TX6 : u_T := fun k => match k with
  | 0 => ("TimeGaps$Tape", "bytes", "[I", true)
  | _ => ("TimeGaps$Tape", "length", "I", false)
def tyX6 : Nat → FieldType := fun k => match k with
  | 0 => .array .int
  | _ => .int
abbrev wsX60 : List Cond := u_ws RX6 TX6 2
theorem nmX6 : ∀ a, a < 2 → ∀ b, b < 2 → a ≠ b → (TX6 a).2.1 ≠ (TX6 b).2.1 := by decide +kernel
theorem tyX6_ok : ∀ k, k < 2 → parseFieldDescriptor (TX6 k).2.2.1 = some (tyX6 k) := by decide +kernel
abbrev cX6_init : ByteArray := prog_8_method_1_code
def yX6_init : MethodName := ⟨RX6, "<init>", "()V"⟩
abbrev cX6_putFourBytes : ByteArray := prog_8_method_2_code
def yX6_putFourBytes : MethodName := ⟨RX6, "putFourBytes", "(I)V"⟩
abbrev cX6_byteAt : ByteArray := prog_8_method_3_code
def yX6_byteAt : MethodName := ⟨RX6, "byteAt", "(I)I"⟩
abbrev cX6_isName : ByteArray := prog_8_method_4_code
def yX6_isName : MethodName := ⟨RX6, "isName", "(II)Z"⟩
abbrev cX6_isKeyword : ByteArray := prog_8_method_5_code
def yX6_isKeyword : MethodName := ⟨RX6, "isKeyword", "(II)Z"⟩
abbrev cX6_spells : ByteArray := prog_8_method_6_code
def yX6_spells : MethodName := ⟨RX6, "spells", "(IILjava/lang/String;)Z"⟩
abbrev cX6_countLetters : ByteArray := prog_8_method_7_code
def yX6_countLetters : MethodName := ⟨RX6, "countLetters", "(I)I"⟩
abbrev cX6_countDigits : ByteArray := prog_8_method_8_code
def yX6_countDigits : MethodName := ⟨RX6, "countDigits", "(I)I"⟩
abbrev cX6_countSpaces : ByteArray := prog_8_method_9_code
def yX6_countSpaces : MethodName := ⟨RX6, "countSpaces", "(I)I"⟩
abbrev cX6_isLetter : ByteArray := prog_8_method_10_code
def yX6_isLetter : MethodName := ⟨RX6, "isLetter", "(I)Z"⟩
abbrev cX6_isDigit : ByteArray := prog_8_method_11_code
def yX6_isDigit : MethodName := ⟨RX6, "isDigit", "(I)Z"⟩
def RX7 : String := "TimeGaps$Text"
def TX7 : u_T := fun k => match k with
  | 0 => ("TimeGaps$Text", "bytes", "[I", true)
  | _ => ("TimeGaps$Text", "length", "I", false)
def tyX7 : Nat → FieldType := fun k => match k with
  | 0 => .array .int
  | _ => .int
abbrev wsX70 : List Cond := u_ws RX7 TX7 2
theorem nmX7 : ∀ a, a < 2 → ∀ b, b < 2 → a ≠ b → (TX7 a).2.1 ≠ (TX7 b).2.1 := by decide +kernel
theorem tyX7_ok : ∀ k, k < 2 → parseFieldDescriptor (TX7 k).2.2.1 = some (tyX7 k) := by decide +kernel
abbrev cX7_init : ByteArray := prog_9_method_1_code
def yX7_init : MethodName := ⟨RX7, "<init>", "()V"⟩
abbrev cX7_byteAt : ByteArray := prog_9_method_2_code
def yX7_byteAt : MethodName := ⟨RX7, "byteAt", "(I)I"⟩
abbrev cX7_writeList : ByteArray := prog_9_method_3_code
def yX7_writeList : MethodName := ⟨RX7, "writeList", "(LTimeGaps$Plan;LTimeGaps$Net;)V"⟩
abbrev cX7_writeSetup : ByteArray := prog_9_method_4_code
def yX7_writeSetup : MethodName := ⟨RX7, "writeSetup", "(LTimeGaps$Plan;)V"⟩
abbrev cX7_putGap : ByteArray := prog_9_method_5_code
def yX7_putGap : MethodName := ⟨RX7, "putGap", "(LTimeGaps$Plan;I)V"⟩
abbrev cX7_putName : ByteArray := prog_9_method_6_code
def yX7_putName : MethodName := ⟨RX7, "putName", "(LTimeGaps$Plan;I)V"⟩
abbrev cX7_putWord : ByteArray := prog_9_method_7_code
def yX7_putWord : MethodName := ⟨RX7, "putWord", "(Ljava/lang/String;)V"⟩
abbrev cX7_putNumber : ByteArray := prog_9_method_8_code
def yX7_putNumber : MethodName := ⟨RX7, "putNumber", "(I)V"⟩
abbrev cX7_put : ByteArray := prog_9_method_9_code
def yX7_put : MethodName := ⟨RX7, "put", "(I)V"⟩
def RX8 : String := "TimeGaps"
def TX8 : u_T := fun k => match k with
  | 0 => ("TimeGaps", "plan", "LTimeGaps$Plan;", true)
  | 1 => ("TimeGaps", "net", "LTimeGaps$Net;", true)
  | 2 => ("TimeGaps", "trial", "LTimeGaps$Net;", true)
  | 3 => ("TimeGaps", "history", "LTimeGaps$History;", true)
  | 4 => ("TimeGaps", "slots", "LTimeGaps$Slots;", true)
  | 5 => ("TimeGaps", "reader", "LTimeGaps$SetupReader;", true)
  | 6 => ("TimeGaps", "tape", "LTimeGaps$Tape;", true)
  | 7 => ("TimeGaps", "text", "LTimeGaps$Text;", true)
  | _ => ("TimeGaps", "errorAt", "I", false)
def tyX8 : Nat → FieldType := fun k => match k with
  | 0 => .object "TimeGaps$Plan"
  | 1 => .object "TimeGaps$Net"
  | 2 => .object "TimeGaps$Net"
  | 3 => .object "TimeGaps$History"
  | 4 => .object "TimeGaps$Slots"
  | 5 => .object "TimeGaps$SetupReader"
  | 6 => .object "TimeGaps$Tape"
  | 7 => .object "TimeGaps$Text"
  | _ => .int
abbrev wsX80 : List Cond := u_ws RX8 TX8 9
theorem nmX8 : ∀ a, a < 9 → ∀ b, b < 9 → a ≠ b → (TX8 a).2.1 ≠ (TX8 b).2.1 := by decide +kernel
theorem tyX8_ok : ∀ k, k < 9 → parseFieldDescriptor (TX8 k).2.2.1 = some (tyX8 k) := by decide +kernel
abbrev cX8_init : ByteArray := prog_1_method_1_code
def yX8_init : MethodName := ⟨RX8, "<init>", "()V"⟩
abbrev cX8_append : ByteArray := prog_1_method_2_code
def yX8_append : MethodName := ⟨RX8, "append", "(IIIII)I"⟩
abbrev cX8_truncate : ByteArray := prog_1_method_3_code
def yX8_truncate : MethodName := ⟨RX8, "truncate", "(I)I"⟩
abbrev cX8_load : ByteArray := prog_1_method_4_code
def yX8_load : MethodName := ⟨RX8, "load", "()I"⟩
abbrev cX8_errorPosition : ByteArray := prog_1_method_5_code
def yX8_errorPosition : MethodName := ⟨RX8, "errorPosition", "()I"⟩
abbrev cX8_open : ByteArray := prog_1_method_6_code
def yX8_open : MethodName := ⟨RX8, "open", "()I"⟩
abbrev cX8_tell : ByteArray := prog_1_method_7_code
def yX8_tell : MethodName := ⟨RX8, "tell", "(IIII)I"⟩
abbrev cX8_drop : ByteArray := prog_1_method_8_code
def yX8_drop : MethodName := ⟨RX8, "drop", "(I)I"⟩
abbrev cX8_set : ByteArray := prog_1_method_9_code
def yX8_set : MethodName := ⟨RX8, "set", "(II)I"⟩
abbrev cX8_turn : ByteArray := prog_1_method_10_code
def yX8_turn : MethodName := ⟨RX8, "turn", "(I)I"⟩
abbrev cX8_pin : ByteArray := prog_1_method_11_code
def yX8_pin : MethodName := ⟨RX8, "pin", "(II)I"⟩
abbrev cX8_unpin : ByteArray := prog_1_method_12_code
def yX8_unpin : MethodName := ⟨RX8, "unpin", "(I)I"⟩
abbrev cX8_end : ByteArray := prog_1_method_13_code
def yX8_end : MethodName := ⟨RX8, "end", "(I)I"⟩
abbrev cX8_rename : ByteArray := prog_1_method_14_code
def yX8_rename : MethodName := ⟨RX8, "rename", "(I)I"⟩
abbrev cX8_reverse : ByteArray := prog_1_method_15_code
def yX8_reverse : MethodName := ⟨RX8, "reverse", "(I)I"⟩
abbrev cX8_tighten : ByteArray := prog_1_method_16_code
def yX8_tighten : MethodName := ⟨RX8, "tighten", "()I"⟩
abbrev cX8_thin : ByteArray := prog_1_method_17_code
def yX8_thin : MethodName := ⟨RX8, "thin", "()I"⟩
abbrev cX8_pinAll : ByteArray := prog_1_method_18_code
def yX8_pinAll : MethodName := ⟨RX8, "pinAll", "()I"⟩
abbrev cX8_keep : ByteArray := prog_1_method_19_code
def yX8_keep : MethodName := ⟨RX8, "keep", "(I)I"⟩
abbrev cX8_restore : ByteArray := prog_1_method_20_code
def yX8_restore : MethodName := ⟨RX8, "restore", "(I)I"⟩
abbrev cX8_undo : ByteArray := prog_1_method_21_code
def yX8_undo : MethodName := ⟨RX8, "undo", "()I"⟩
abbrev cX8_value : ByteArray := prog_1_method_22_code
def yX8_value : MethodName := ⟨RX8, "value", "(I)I"⟩
abbrev cX8_letter : ByteArray := prog_1_method_23_code
def yX8_letter : MethodName := ⟨RX8, "letter", "(II)I"⟩
abbrev cX8_gap : ByteArray := prog_1_method_24_code
def yX8_gap : MethodName := ⟨RX8, "gap", "(II)I"⟩
abbrev cX8_event : ByteArray := prog_1_method_25_code
def yX8_event : MethodName := ⟨RX8, "event", "(II)I"⟩
abbrev cX8_bound : ByteArray := prog_1_method_26_code
def yX8_bound : MethodName := ⟨RX8, "bound", "(II)I"⟩
abbrev cX8_way : ByteArray := prog_1_method_27_code
def yX8_way : MethodName := ⟨RX8, "way", "(III)I"⟩
abbrev cX8_wayLength : ByteArray := prog_1_method_28_code
def yX8_wayLength : MethodName := ⟨RX8, "wayLength", "(II)I"⟩
abbrev cX8_relation : ByteArray := prog_1_method_29_code
def yX8_relation : MethodName := ⟨RX8, "relation", "(II)I"⟩
abbrev cX8_play : ByteArray := prog_1_method_30_code
def yX8_play : MethodName := ⟨RX8, "play", "(II)I"⟩
abbrev cX8_pairs : ByteArray := prog_1_method_31_code
def yX8_pairs : MethodName := ⟨RX8, "pairs", "(I)I"⟩
abbrev cX8_ordered : ByteArray := prog_1_method_33_code
def yX8_ordered : MethodName := ⟨RX8, "ordered", "(I)I"⟩
abbrev cX8_middle : ByteArray := prog_1_method_34_code
def yX8_middle : MethodName := ⟨RX8, "middle", "(I)I"⟩
abbrev cX8_lastly : ByteArray := prog_1_method_35_code
def yX8_lastly : MethodName := ⟨RX8, "lastly", "(I)I"⟩
abbrev cX8_can : ByteArray := prog_1_method_36_code
def yX8_can : MethodName := ⟨RX8, "can", "(II)I"⟩
abbrev cX8_freest : ByteArray := prog_1_method_38_code
def yX8_freest : MethodName := ⟨RX8, "freest", "()I"⟩
abbrev cX8_why : ByteArray := prog_1_method_39_code
def yX8_why : MethodName := ⟨RX8, "why", "(IIIII)I"⟩
abbrev cX8_ring : ByteArray := prog_1_method_40_code
def yX8_ring : MethodName := ⟨RX8, "ring", "(IIIII)I"⟩
abbrev cX8_culprit : ByteArray := prog_1_method_41_code
def yX8_culprit : MethodName := ⟨RX8, "culprit", "(IIII)I"⟩
abbrev cX8_tightest : ByteArray := prog_1_method_42_code
def yX8_tightest : MethodName := ⟨RX8, "tightest", "(III)I"⟩
abbrev cX8_spare : ByteArray := prog_1_method_43_code
def yX8_spare : MethodName := ⟨RX8, "spare", "(I)I"⟩
abbrev cX8_needless : ByteArray := prog_1_method_44_code
def yX8_needless : MethodName := ⟨RX8, "needless", "()I"⟩
abbrev cX8_needs : ByteArray := prog_1_method_45_code
def yX8_needs : MethodName := ⟨RX8, "needs", "(I)I"⟩
abbrev cX8_ifTold : ByteArray := prog_1_method_46_code
def yX8_ifTold : MethodName := ⟨RX8, "ifTold", "(IIIII)I"⟩
abbrev cX8_ifDropped : ByteArray := prog_1_method_47_code
def yX8_ifDropped : MethodName := ⟨RX8, "ifDropped", "(II)I"⟩
abbrev cX8_ifTurned : ByteArray := prog_1_method_48_code
def yX8_ifTurned : MethodName := ⟨RX8, "ifTurned", "(II)I"⟩
abbrev cX8_ifPinned : ByteArray := prog_1_method_49_code
def yX8_ifPinned : MethodName := ⟨RX8, "ifPinned", "(III)I"⟩
abbrev cX8_leastEnd : ByteArray := prog_1_method_50_code
def yX8_leastEnd : MethodName := ⟨RX8, "leastEnd", "()I"⟩
abbrev cX8_log : ByteArray := prog_1_method_52_code
def yX8_log : MethodName := ⟨RX8, "log", "(II)I"⟩
abbrev cX8_tightShare : ByteArray := prog_1_method_53_code
def yX8_tightShare : MethodName := ⟨RX8, "tightShare", "()F"⟩
abbrev cX8_meanRoom : ByteArray := prog_1_method_54_code
def yX8_meanRoom : MethodName := ⟨RX8, "meanRoom", "()D"⟩
abbrev cX8_listLength : ByteArray := prog_1_method_55_code
def yX8_listLength : MethodName := ⟨RX8, "listLength", "()I"⟩
abbrev cX8_listByte : ByteArray := prog_1_method_56_code
def yX8_listByte : MethodName := ⟨RX8, "listByte", "(I)I"⟩
abbrev cX8_setupLength : ByteArray := prog_1_method_57_code
def yX8_setupLength : MethodName := ⟨RX8, "setupLength", "()I"⟩
abbrev cX8_setupByte : ByteArray := prog_1_method_58_code
def yX8_setupByte : MethodName := ⟨RX8, "setupByte", "(I)I"⟩
abbrev cX8_isEvent : ByteArray := prog_1_method_59_code
def yX8_isEvent : MethodName := ⟨RX8, "isEvent", "(I)Z"⟩
abbrev cX8_areTwoEvents : ByteArray := prog_1_method_60_code
def yX8_areTwoEvents : MethodName := ⟨RX8, "areTwoEvents", "(II)Z"⟩
abbrev cX8_isGap : ByteArray := prog_1_method_61_code
def yX8_isGap : MethodName := ⟨RX8, "isGap", "(I)Z"⟩
abbrev cX8_isTellable : ByteArray := prog_1_method_62_code
def yX8_isTellable : MethodName := ⟨RX8, "isTellable", "(IIII)Z"⟩
abbrev cX8_isTime : ByteArray := prog_1_method_63_code
def yX8_isTime : MethodName := ⟨RX8, "isTime", "(I)Z"⟩
abbrev cX8_isPinnable : ByteArray := prog_1_method_64_code
def yX8_isPinnable : MethodName := ⟨RX8, "isPinnable", "(I)Z"⟩
abbrev cX8_isNewNameOnTape : ByteArray := prog_1_method_65_code
def yX8_isNewNameOnTape : MethodName := ⟨RX8, "isNewNameOnTape", "()Z"⟩
abbrev cX8_isKind : ByteArray := prog_1_method_66_code
def yX8_isKind : MethodName := ⟨RX8, "isKind", "(I)Z"⟩
abbrev cX8_isNumber : ByteArray := prog_1_method_67_code
def yX8_isNumber : MethodName := ⟨RX8, "isNumber", "(I)Z"⟩
abbrev cX8_isSlot : ByteArray := prog_1_method_68_code
def yX8_isSlot : MethodName := ⟨RX8, "isSlot", "(I)Z"⟩
abbrev cX8_isChange : ByteArray := prog_1_method_69_code
def yX8_isChange : MethodName := ⟨RX8, "isChange", "(I)Z"⟩
abbrev cX8_asNumber : ByteArray := prog_1_method_70_code
def yX8_asNumber : MethodName := ⟨RX8, "asNumber", "(Z)I"⟩
abbrev cX8_finish : ByteArray := prog_1_method_71_code
def yX8_finish : MethodName := ⟨RX8, "finish", "(III)V"⟩
abbrev cX8_beginOf : ByteArray := prog_1_method_72_code
def yX8_beginOf : MethodName := ⟨RX8, "beginOf", "(I)I"⟩
abbrev cX8_finishOf : ByteArray := prog_1_method_73_code
def yX8_finishOf : MethodName := ⟨RX8, "finishOf", "(I)I"⟩
abbrev cX8_lengthOf : ByteArray := prog_1_method_74_code
def yX8_lengthOf : MethodName := ⟨RX8, "lengthOf", "(I)I"⟩
abbrev cX8_boundOf : ByteArray := prog_1_method_75_code
def yX8_boundOf : MethodName := ⟨RX8, "boundOf", "(I)I"⟩
abbrev cX8_ringOfGap : ByteArray := prog_1_method_76_code
def yX8_ringOfGap : MethodName := ⟨RX8, "ringOfGap", "(II)I"⟩
abbrev cX8_isTight : ByteArray := prog_1_method_77_code
def yX8_isTight : MethodName := ⟨RX8, "isTight", "(I)Z"⟩
abbrev cX8_isNeeded : ByteArray := prog_1_method_78_code
def yX8_isNeeded : MethodName := ⟨RX8, "isNeeded", "(I)Z"⟩
abbrev cX8_isLoose : ByteArray := prog_1_method_79_code
def yX8_isLoose : MethodName := ⟨RX8, "isLoose", "(I)Z"⟩
abbrev cX8_tightNumber : ByteArray := prog_1_method_80_code
def yX8_tightNumber : MethodName := ⟨RX8, "tightNumber", "(I)I"⟩
abbrev cX8_tightestNumber : ByteArray := prog_1_method_81_code
def yX8_tightestNumber : MethodName := ⟨RX8, "tightestNumber", "(III)I"⟩
abbrev cX8_countTight : ByteArray := prog_1_method_82_code
def yX8_countTight : MethodName := ⟨RX8, "countTight", "()I"⟩
abbrev cX8_countNeeded : ByteArray := prog_1_method_83_code
def yX8_countNeeded : MethodName := ⟨RX8, "countNeeded", "()I"⟩
abbrev cX8_firstNeedless : ByteArray := prog_1_method_84_code
def yX8_firstNeedless : MethodName := ⟨RX8, "firstNeedless", "(I)I"⟩
abbrev cX8_relationOf : ByteArray := prog_1_method_85_code
def yX8_relationOf : MethodName := ⟨RX8, "relationOf", "(II)I"⟩
abbrev cX8_stepOfRing : ByteArray := prog_1_method_86_code
def yX8_stepOfRing : MethodName := ⟨RX8, "stepOfRing", "(IIII)I"⟩
abbrev cX8_tryWithout : ByteArray := prog_1_method_87_code
def yX8_tryWithout : MethodName := ⟨RX8, "tryWithout", "(I)V"⟩
abbrev cX8_changeOnTrial : ByteArray := prog_1_method_88_code
def yX8_changeOnTrial : MethodName := ⟨RX8, "changeOnTrial", "(I)I"⟩
abbrev cX8_stepBegin : ByteArray := prog_1_method_89_code
def yX8_stepBegin : MethodName := ⟨RX8, "stepBegin", "(III)I"⟩
abbrev cX8_stepFinish : ByteArray := prog_1_method_90_code
def yX8_stepFinish : MethodName := ⟨RX8, "stepFinish", "(III)I"⟩
abbrev cX8_stepLength : ByteArray := prog_1_method_91_code
def yX8_stepLength : MethodName := ⟨RX8, "stepLength", "(II)I"⟩
def RX9 : String := "TimeGapsModel"
def TX9 : u_T := fun k => match k with
  | _ => ("", "", "", false)
def tyX9 : Nat → FieldType := fun k => match k with
  | _ => .int
abbrev wsX90 : List Cond := u_ws RX9 TX9 0
theorem nmX9 : ∀ a, a < 0 → ∀ b, b < 0 → a ≠ b → (TX9 a).2.1 ≠ (TX9 b).2.1 := by decide +kernel
theorem tyX9_ok : ∀ k, k < 0 → parseFieldDescriptor (TX9 k).2.2.1 = some (tyX9 k) := by decide +kernel
def RJ5 : String := "java/lang/AbstractStringBuilder"
def TJ5 : u_T := fun k => match k with
  | _ => ("", "", "", false)
def tyJ5 : Nat → FieldType := fun k => match k with
  | _ => .int
abbrev wsJ50 : List Cond := u_ws RJ5 TJ5 0
theorem nmJ5 : ∀ a, a < 0 → ∀ b, b < 0 → a ≠ b → (TJ5 a).2.1 ≠ (TJ5 b).2.1 := by decide +kernel
theorem tyJ5_ok : ∀ k, k < 0 → parseFieldDescriptor (TJ5 k).2.2.1 = some (tyJ5 k) := by decide +kernel
abbrev cJ5_init_d00df : ByteArray := prog_12_method_2_code
def yJ5_init_d00df : MethodName := ⟨RJ5, "<init>", "(I)V"⟩
abbrev cJ5_init_a7421 : ByteArray := prog_12_method_3_code
def yJ5_init_a7421 : MethodName := ⟨RJ5, "<init>", "(Ljava/lang/String;)V"⟩
abbrev cJ5_length_8abf5 : ByteArray := prog_12_method_6_code
def yJ5_length_8abf5 : MethodName := ⟨RJ5, "length", "()I"⟩
abbrev cJ5_ensureCapacityInternal_d00df : ByteArray := prog_12_method_9_code
def yJ5_ensureCapacityInternal_d00df : MethodName := ⟨RJ5, "ensureCapacityInternal", "(I)V"⟩
abbrev cJ5_newCapacity_0f7a4 : ByteArray := prog_12_method_10_code
def yJ5_newCapacity_0f7a4 : MethodName := ⟨RJ5, "newCapacity", "(I)I"⟩
abbrev cJ5_inflate_da8c8 : ByteArray := prog_12_method_11_code
def yJ5_inflate_da8c8 : MethodName := ⟨RJ5, "inflate", "()V"⟩
abbrev cJ5_append_cf1ce : ByteArray := prog_12_method_22_code
def yJ5_append_cf1ce : MethodName := ⟨RJ5, "append", "(Ljava/lang/String;)Ljava/lang/AbstractStringBuilder;"⟩
abbrev cJ5_appendNull_278bc : ByteArray := prog_12_method_26_code
def yJ5_appendNull_278bc : MethodName := ⟨RJ5, "appendNull", "()Ljava/lang/AbstractStringBuilder;"⟩
abbrev cJ5_append_3fe6f : ByteArray := prog_12_method_31_code
def yJ5_append_3fe6f : MethodName := ⟨RJ5, "append", "(C)Ljava/lang/AbstractStringBuilder;"⟩
abbrev cJ5_append_c97b9 : ByteArray := prog_12_method_32_code
def yJ5_append_c97b9 : MethodName := ⟨RJ5, "append", "(I)Ljava/lang/AbstractStringBuilder;"⟩
abbrev cJ5_getValue_6d5f1 : ByteArray := prog_12_method_64_code
def yJ5_getValue_6d5f1 : MethodName := ⟨RJ5, "getValue", "()[B"⟩
abbrev cJ5_isLatin1_aae02 : ByteArray := prog_12_method_68_code
def yJ5_isLatin1_aae02 : MethodName := ⟨RJ5, "isLatin1", "()Z"⟩
abbrev cJ5_inflateIfNeededFor_a7421 : ByteArray := prog_12_method_71_code
def yJ5_inflateIfNeededFor_a7421 : MethodName := ⟨RJ5, "inflateIfNeededFor", "(Ljava/lang/String;)V"⟩
abbrev cJ5_putStringAt_47b60 : ByteArray := prog_12_method_73_code
def yJ5_putStringAt_47b60 : MethodName := ⟨RJ5, "putStringAt", "(ILjava/lang/String;)V"⟩
def RJ6 : String := "java/lang/Integer"
def TJ6 : u_T := fun k => match k with
  | _ => ("", "", "", false)
def tyJ6 : Nat → FieldType := fun k => match k with
  | _ => .int
abbrev wsJ60 : List Cond := u_ws RJ6 TJ6 0
theorem nmJ6 : ∀ a, a < 0 → ∀ b, b < 0 → a ≠ b → (TJ6 a).2.1 ≠ (TJ6 b).2.1 := by decide +kernel
theorem tyJ6_ok : ∀ k, k < 0 → parseFieldDescriptor (TJ6 k).2.2.1 = some (tyJ6 k) := by decide +kernel
abbrev cJ6_getChars_ba4f3 : ByteArray := prog_14_method_12_code
def yJ6_getChars_ba4f3 : MethodName := ⟨RJ6, "getChars", "(II[B)I"⟩
abbrev cJ6_stringSize_0f7a4 : ByteArray := prog_14_method_13_code
def yJ6_stringSize_0f7a4 : MethodName := ⟨RJ6, "stringSize", "(I)I"⟩
def RJ9 : String := "java/lang/Math"
def TJ9 : u_T := fun k => match k with
  | _ => ("", "", "", false)
def tyJ9 : Nat → FieldType := fun k => match k with
  | _ => .int
abbrev wsJ90 : List Cond := u_ws RJ9 TJ9 0
theorem nmJ9 : ∀ a, a < 0 → ∀ b, b < 0 → a ≠ b → (TJ9 a).2.1 ≠ (TJ9 b).2.1 := by decide +kernel
theorem tyJ9_ok : ∀ k, k < 0 → parseFieldDescriptor (TJ9 k).2.2.1 = some (tyJ9 k) := by decide +kernel
abbrev cJ9_floorDiv_7cf53 : ByteArray := prog_15_method_47_code
def yJ9_floorDiv_7cf53 : MethodName := ⟨RJ9, "floorDiv", "(II)I"⟩
abbrev cJ9_floorMod_7cf53 : ByteArray := prog_15_method_50_code
def yJ9_floorMod_7cf53 : MethodName := ⟨RJ9, "floorMod", "(II)I"⟩
abbrev cJ9_abs_0f7a4 : ByteArray := prog_15_method_59_code
def yJ9_abs_0f7a4 : MethodName := ⟨RJ9, "abs", "(I)I"⟩
abbrev cJ9_max_7cf53 : ByteArray := prog_15_method_65_code
def yJ9_max_7cf53 : MethodName := ⟨RJ9, "max", "(II)I"⟩
abbrev cJ9_min_7cf53 : ByteArray := prog_15_method_69_code
def yJ9_min_7cf53 : MethodName := ⟨RJ9, "min", "(II)I"⟩
def RJ0 : String := "java/lang/String"
def TJ0 : u_T := fun k => match k with
  | 0 => ("java/lang/String", "value", "[B", true)
  | 1 => ("java/lang/String", "coder", "B", true)
  | 2 => ("java/lang/String", "hash", "I", false)
  | _ => ("java/lang/String", "hashIsZero", "Z", false)
def tyJ0 : Nat → FieldType := fun k => match k with
  | 0 => .array .byte
  | 1 => .byte
  | 2 => .int
  | _ => .boolean
abbrev wsJ00 : List Cond := u_ws RJ0 TJ0 4
theorem nmJ0 : ∀ a, a < 4 → ∀ b, b < 4 → a ≠ b → (TJ0 a).2.1 ≠ (TJ0 b).2.1 := by decide +kernel
theorem tyJ0_ok : ∀ k, k < 4 → parseFieldDescriptor (TJ0 k).2.2.1 = some (tyJ0 k) := by decide +kernel
abbrev cJ0_init_81219 : ByteArray := prog_16_method_53_code
def yJ0_init_81219 : MethodName := ⟨RJ0, "<init>", "(Ljava/lang/StringBuilder;)V"⟩
abbrev cJ0_length_8abf5 : ByteArray := prog_16_method_54_code
def yJ0_length_8abf5 : MethodName := ⟨RJ0, "length", "()I"⟩
abbrev cJ0_charAt_5068e : ByteArray := prog_16_method_56_code
def yJ0_charAt_5068e : MethodName := ⟨RJ0, "charAt", "(I)C"⟩
abbrev cJ0_getBytes_840e7 : ByteArray := prog_16_method_147_code
def yJ0_getBytes_840e7 : MethodName := ⟨RJ0, "getBytes", "([BIB)V"⟩
abbrev cJ0_init_db425 : ByteArray := prog_16_method_150_code
def yJ0_init_db425 : MethodName := ⟨RJ0, "<init>", "(Ljava/lang/AbstractStringBuilder;Ljava/lang/Void;)V"⟩
abbrev cJ0_coder_7d493 : ByteArray := prog_16_method_152_code
def yJ0_coder_7d493 : MethodName := ⟨RJ0, "coder", "()B"⟩
abbrev cJ0_isLatin1_aae02 : ByteArray := prog_16_method_154_code
def yJ0_isLatin1_aae02 : MethodName := ⟨RJ0, "isLatin1", "()Z"⟩
abbrev cJ0_checkIndex_df160 : ByteArray := prog_16_method_155_code
def yJ0_checkIndex_df160 : MethodName := ⟨RJ0, "checkIndex", "(II)V"⟩
abbrev cJ0_checkBoundsOffCount_cabcc : ByteArray := prog_16_method_157_code
def yJ0_checkBoundsOffCount_cabcc : MethodName := ⟨RJ0, "checkBoundsOffCount", "(III)I"⟩
abbrev cJ0_checkBoundsBeginEnd_23922 : ByteArray := prog_16_method_158_code
def yJ0_checkBoundsBeginEnd_23922 : MethodName := ⟨RJ0, "checkBoundsBeginEnd", "(III)V"⟩
def RJ4 : String := "java/lang/StringBuilder"
def TJ4 : u_T := fun k => match k with
  | 0 => ("java/lang/AbstractStringBuilder", "value", "[B", false)
  | 1 => ("java/lang/AbstractStringBuilder", "coder", "B", false)
  | 2 => ("java/lang/AbstractStringBuilder", "maybeLatin1", "Z", false)
  | _ => ("java/lang/AbstractStringBuilder", "count", "I", false)
def tyJ4 : Nat → FieldType := fun k => match k with
  | 0 => .array .byte
  | 1 => .byte
  | 2 => .boolean
  | _ => .int
abbrev wsJ40 : List Cond := u_ws RJ4 TJ4 4
theorem nmJ4 : ∀ a, a < 4 → ∀ b, b < 4 → a ≠ b → (TJ4 a).2.1 ≠ (TJ4 b).2.1 := by decide +kernel
theorem tyJ4_ok : ∀ k, k < 4 → parseFieldDescriptor (TJ4 k).2.2.1 = some (tyJ4 k) := by decide +kernel
abbrev cJ4_init_da8c8 : ByteArray := prog_17_method_1_code
def yJ4_init_da8c8 : MethodName := ⟨RJ4, "<init>", "()V"⟩
abbrev cJ4_init_a7421 : ByteArray := prog_17_method_3_code
def yJ4_init_a7421 : MethodName := ⟨RJ4, "<init>", "(Ljava/lang/String;)V"⟩
abbrev cJ4_append_15ec4 : ByteArray := prog_17_method_7_code
def yJ4_append_15ec4 : MethodName := ⟨RJ4, "append", "(Ljava/lang/String;)Ljava/lang/StringBuilder;"⟩
abbrev cJ4_append_cf468 : ByteArray := prog_17_method_14_code
def yJ4_append_cf468 : MethodName := ⟨RJ4, "append", "(C)Ljava/lang/StringBuilder;"⟩
abbrev cJ4_append_bf812 : ByteArray := prog_17_method_15_code
def yJ4_append_bf812 : MethodName := ⟨RJ4, "append", "(I)Ljava/lang/StringBuilder;"⟩
abbrev cJ4_toString_0e30d : ByteArray := prog_17_method_42_code
def yJ4_toString_0e30d : MethodName := ⟨RJ4, "toString", "()Ljava/lang/String;"⟩
abbrev cJ4_append_cf1ce : ByteArray := prog_17_method_80_code
def yJ4_append_cf1ce : MethodName := ⟨RJ4, "append", "(Ljava/lang/String;)Ljava/lang/AbstractStringBuilder;"⟩
abbrev cJ4_length_8abf5 : ByteArray := prog_17_method_93_code
def yJ4_length_8abf5 : MethodName := ⟨RJ4, "length", "()I"⟩
def RJ1 : String := "java/lang/StringLatin1"
def TJ1 : u_T := fun k => match k with
  | _ => ("", "", "", false)
def tyJ1 : Nat → FieldType := fun k => match k with
  | _ => .int
abbrev wsJ10 : List Cond := u_ws RJ1 TJ1 0
theorem nmJ1 : ∀ a, a < 0 → ∀ b, b < 0 → a ≠ b → (TJ1 a).2.1 ≠ (TJ1 b).2.1 := by decide +kernel
theorem tyJ1_ok : ∀ k, k < 0 → parseFieldDescriptor (TJ1 k).2.2.1 = some (tyJ1 k) := by decide +kernel
abbrev cJ1_charAt_3b067 : ByteArray := prog_18_method_2_code
def yJ1_charAt_3b067 : MethodName := ⟨RJ1, "charAt", "([BI)C"⟩
abbrev cJ1_canEncode_fc78d : ByteArray := prog_18_method_3_code
def yJ1_canEncode_fc78d : MethodName := ⟨RJ1, "canEncode", "(C)Z"⟩
abbrev cJ1_inflate_0e8fd : ByteArray := prog_18_method_50_code
def yJ1_inflate_0e8fd : MethodName := ⟨RJ1, "inflate", "([BI[BII)V"⟩
def RJ2 : String := "java/lang/StringUTF16"
def TJ2 : u_T := fun k => match k with
  | _ => ("", "", "", false)
def tyJ2 : Nat → FieldType := fun k => match k with
  | _ => .int
abbrev wsJ20 : List Cond := u_ws RJ2 TJ2 0
theorem nmJ2 : ∀ a, a < 0 → ∀ b, b < 0 → a ≠ b → (TJ2 a).2.1 ≠ (TJ2 b).2.1 := by decide +kernel
theorem tyJ2_ok : ∀ k, k < 0 → parseFieldDescriptor (TJ2 k).2.2.1 = some (tyJ2 k) := by decide +kernel
abbrev cJ2_newBytesFor_77867 : ByteArray := prog_19_method_2_code
def yJ2_newBytesFor_77867 : MethodName := ⟨RJ2, "newBytesFor", "(I)[B"⟩
abbrev cJ2_newBytesLength_0f7a4 : ByteArray := prog_19_method_3_code
def yJ2_newBytesLength_0f7a4 : MethodName := ⟨RJ2, "newBytesLength", "(I)I"⟩
abbrev cJ2_putChar_b72d1 : ByteArray := prog_19_method_4_code
def yJ2_putChar_b72d1 : MethodName := ⟨RJ2, "putChar", "([BII)V"⟩
abbrev cJ2_getChar_3b067 : ByteArray := prog_19_method_5_code
def yJ2_getChar_3b067 : MethodName := ⟨RJ2, "getChar", "([BI)C"⟩
abbrev cJ2_length_9d52b : ByteArray := prog_19_method_6_code
def yJ2_length_9d52b : MethodName := ⟨RJ2, "length", "([B)I"⟩
abbrev cJ2_coderFromArrayLen_85cad : ByteArray := prog_19_method_15_code
def yJ2_coderFromArrayLen_85cad : MethodName := ⟨RJ2, "coderFromArrayLen", "([BI)B"⟩
abbrev cJ2_compress_39247 : ByteArray := prog_19_method_17_code
def yJ2_compress_39247 : MethodName := ⟨RJ2, "compress", "([BII)[B"⟩
abbrev cJ2_compress_5af95 : ByteArray := prog_19_method_22_code
def yJ2_compress_5af95 : MethodName := ⟨RJ2, "compress", "([BI[BII)I"⟩
abbrev cJ2_putCharSB_b72d1 : ByteArray := prog_19_method_71_code
def yJ2_putCharSB_b72d1 : MethodName := ⟨RJ2, "putCharSB", "([BII)V"⟩
abbrev cJ2_getChars_46870 : ByteArray := prog_19_method_77_code
def yJ2_getChars_46870 : MethodName := ⟨RJ2, "getChars", "(III[B)I"⟩
abbrev cJ2_putCharsAt_cd4e5 : ByteArray := prog_19_method_81_code
def yJ2_putCharsAt_cd4e5 : MethodName := ⟨RJ2, "putCharsAt", "([BICCCC)I"⟩
abbrev cJ2_charAt_3b067 : ByteArray := prog_19_method_83_code
def yJ2_charAt_3b067 : MethodName := ⟨RJ2, "charAt", "([BI)C"⟩
abbrev cJ2_inflate_0e8fd : ByteArray := prog_19_method_86_code
def yJ2_inflate_0e8fd : MethodName := ⟨RJ2, "inflate", "([BI[BII)V"⟩
abbrev cJ2_getChars_ba4f3 : ByteArray := prog_19_method_89_code
def yJ2_getChars_ba4f3 : MethodName := ⟨RJ2, "getChars", "(II[B)I"⟩
abbrev cJ2_checkIndex_2214a : ByteArray := prog_19_method_91_code
def yJ2_checkIndex_2214a : MethodName := ⟨RJ2, "checkIndex", "(I[B)V"⟩
abbrev cJ2_checkBoundsBeginEnd_d044e : ByteArray := prog_19_method_93_code
def yJ2_checkBoundsBeginEnd_d044e : MethodName := ⟨RJ2, "checkBoundsBeginEnd", "(II[B)V"⟩
abbrev cJ2_checkBoundsOffCount_d044e : ByteArray := prog_19_method_94_code
def yJ2_checkBoundsOffCount_d044e : MethodName := ⟨RJ2, "checkBoundsOffCount", "(II[B)V"⟩
def RJ10 : String := "java/lang/System"
def TJ10 : u_T := fun k => match k with
  | _ => ("", "", "", false)
def tyJ10 : Nat → FieldType := fun k => match k with
  | _ => .int
abbrev wsJ100 : List Cond := u_ws RJ10 TJ10 0
theorem nmJ10 : ∀ a, a < 0 → ∀ b, b < 0 → a ≠ b → (TJ10 a).2.1 ≠ (TJ10 b).2.1 := by decide +kernel
theorem tyJ10_ok : ∀ k, k < 0 → parseFieldDescriptor (TJ10 k).2.2.1 = some (tyJ10 k) := by decide +kernel
def RJ7 : String := "java/util/Arrays"
def TJ7 : u_T := fun k => match k with
  | _ => ("", "", "", false)
def tyJ7 : Nat → FieldType := fun k => match k with
  | _ => .int
abbrev wsJ70 : List Cond := u_ws RJ7 TJ7 0
theorem nmJ7 : ∀ a, a < 0 → ∀ b, b < 0 → a ≠ b → (TJ7 a).2.1 ≠ (TJ7 b).2.1 := by decide +kernel
theorem tyJ7_ok : ∀ k, k < 0 → parseFieldDescriptor (TJ7 k).2.2.1 = some (tyJ7 k) := by decide +kernel
abbrev cJ7_copyOf_9075b : ByteArray := prog_21_method_121_code
def yJ7_copyOf_9075b : MethodName := ⟨RJ7, "copyOf", "([BI)[B"⟩
abbrev cJ7_checkLength_df160 : ByteArray := prog_21_method_131_code
def yJ7_checkLength_df160 : MethodName := ⟨RJ7, "checkLength", "(II)V"⟩
abbrev cJ7_copyOfRange_39247 : ByteArray := prog_21_method_132_code
def yJ7_copyOfRange_39247 : MethodName := ⟨RJ7, "copyOfRange", "([BII)[B"⟩
abbrev cJ7_copyOfRangeByte_39247 : ByteArray := prog_21_method_133_code
def yJ7_copyOfRangeByte_39247 : MethodName := ⟨RJ7, "copyOfRangeByte", "([BII)[B"⟩
def RJ8 : String := "jdk/internal/util/ArraysSupport"
def TJ8 : u_T := fun k => match k with
  | _ => ("", "", "", false)
def tyJ8 : Nat → FieldType := fun k => match k with
  | _ => .int
abbrev wsJ80 : List Cond := u_ws RJ8 TJ8 0
theorem nmJ8 : ∀ a, a < 0 → ∀ b, b < 0 → a ≠ b → (TJ8 a).2.1 ≠ (TJ8 b).2.1 := by decide +kernel
theorem tyJ8_ok : ∀ k, k < 0 → parseFieldDescriptor (TJ8 k).2.2.1 = some (tyJ8 k) := by decide +kernel
abbrev cJ8_newLength_cabcc : ByteArray := prog_22_method_27_code
def yJ8_newLength_cabcc : MethodName := ⟨RJ8, "newLength", "(III)I"⟩
abbrev cJ8_hugeLength_7cf53 : ByteArray := prog_22_method_28_code
def yJ8_hugeLength_7cf53 : MethodName := ⟨RJ8, "hugeLength", "(II)I"⟩
def RJ3 : String := "jdk/internal/util/Preconditions"
def TJ3 : u_T := fun k => match k with
  | _ => ("", "", "", false)
def tyJ3 : Nat → FieldType := fun k => match k with
  | _ => .int
abbrev wsJ30 : List Cond := u_ws RJ3 TJ3 0
theorem nmJ3 : ∀ a, a < 0 → ∀ b, b < 0 → a ≠ b → (TJ3 a).2.1 ≠ (TJ3 b).2.1 := by decide +kernel
theorem tyJ3_ok : ∀ k, k < 0 → parseFieldDescriptor (TJ3 k).2.2.1 = some (tyJ3 k) := by decide +kernel
abbrev cJ3_checkIndex_8e157 : ByteArray := prog_23_method_11_code
def yJ3_checkIndex_8e157 : MethodName := ⟨RJ3, "checkIndex", "(IILjava/util/function/BiFunction;)I"⟩
abbrev cJ3_checkFromToIndex_8c36e : ByteArray := prog_23_method_12_code
def yJ3_checkFromToIndex_8c36e : MethodName := ⟨RJ3, "checkFromToIndex", "(IIILjava/util/function/BiFunction;)I"⟩
abbrev cJ3_checkFromIndexSize_8c36e : ByteArray := prog_23_method_13_code
def yJ3_checkFromIndexSize_8c36e : MethodName := ⟨RJ3, "checkFromIndexSize", "(IIILjava/util/function/BiFunction;)I"⟩
def RL : String := "TimeGapsLaw"
abbrev cL_draw : ByteArray := method_2_code
def yL_draw : MethodName := ⟨RL, "draw", "([I)I"⟩
abbrev cL_write : ByteArray := method_3_code
def yL_write : MethodName := ⟨RL, "write", "(LTimeGaps;Ljava/lang/String;)V"⟩
abbrev cL_loads : ByteArray := method_4_code
def yL_loads : MethodName := ⟨RL, "loads", "(LTimeGaps;Ljava/lang/String;)Z"⟩
abbrev cL_text : ByteArray := method_5_code
def yL_text : MethodName := ⟨RL, "text", "(LTimeGaps;Z)Ljava/lang/String;"⟩
abbrev cL_setup : ByteArray := method_6_code
def yL_setup : MethodName := ⟨RL, "setup", "([I)Ljava/lang/String;"⟩
abbrev cL_acts : ByteArray := method_7_code
def yL_acts : MethodName := ⟨RL, "acts", "(LTimeGaps;[I)I"⟩
abbrev cL_tells : ByteArray := method_8_code
def yL_tells : MethodName := ⟨RL, "tells", "(LTimeGaps;[I)I"⟩
abbrev cL_isAs : ByteArray := method_9_code
def yL_isAs : MethodName := ⟨RL, "isAs", "(LTimeGaps;[II[I)Z"⟩
abbrev cL_bear : ByteArray := method_10_code
def yL_bear : MethodName := ⟨RL, "bear", "(LTimeGaps;I)Z"⟩
abbrev cL_time : ByteArray := method_11_code
def yL_time : MethodName := ⟨RL, "time", "(LTimeGaps;II)I"⟩
abbrev cL_lengthOf : ByteArray := method_12_code
def yL_lengthOf : MethodName := ⟨RL, "lengthOf", "(LTimeGaps;I)I"⟩
abbrev cL_bounds : ByteArray := method_13_code
def yL_bounds : MethodName := ⟨RL, "bounds", "(LTimeGaps;)Z"⟩
abbrev cL_gaps : ByteArray := method_14_code
def yL_gaps : MethodName := ⟨RL, "gaps", "(LTimeGaps;[I[I[I)Z"⟩
abbrev cL_foretold : ByteArray := method_15_code
def yL_foretold : MethodName := ⟨RL, "foretold", "(LTimeGaps;[I[I[I)Z"⟩
abbrev cL_undone : ByteArray := method_16_code
def yL_undone : MethodName := ⟨RL, "undone", "(LTimeGaps;[I[I[I)Z"⟩
abbrev cL_law : ByteArray := code
def yL_law : MethodName := ⟨RL, "law", "([I)Z"⟩
abbrev vwCl : List vw_C := [(RJ0, TJ0, 4), (RJ4, TJ4, 4), (RX0, TX0, 3), (RX1, TX1, 3), (RX2, TX2, 7), (RX3, TX3, 12), (RX4, TX4, 6), (RX5, TX5, 2), (RX6, TX6, 2), (RX7, TX7, 2), (RX8, TX8, 9)]
end
section
theorem dX0_init_0 : decode cX0_init 0 = .ok (.aload_n 0, 1) := by decide +kernel
theorem dX0_init_1 : decode cX0_init 1 = .ok (.invokespecial 3, 3) := by decide +kernel
theorem dX0_init_4 : decode cX0_init 4 = .ok (.aload_n 0, 1) := by decide +kernel
theorem dX0_init_5 : decode cX0_init 5 = .ok (.bipush 8, 2) := by decide +kernel
theorem dX0_init_7 : decode cX0_init 7 = .ok (.anewarray 9, 3) := by decide +kernel
theorem dX0_init_10 : decode cX0_init 10 = .ok (.putfield 11, 3) := by decide +kernel
theorem dX0_init_13 : decode cX0_init 13 = .ok (.iconst 0, 1) := by decide +kernel
theorem dX0_init_14 : decode cX0_init 14 = .ok (.istore_n 1, 1) := by decide +kernel
theorem dX0_init_15 : decode cX0_init 15 = .ok (.iload_n 1, 1) := by decide +kernel
theorem dX0_init_16 : decode cX0_init 16 = .ok (.bipush 8, 2) := by decide +kernel
theorem dX0_init_18 : decode cX0_init 18 = .ok (.if_icmp .ge 22, 3) := by decide +kernel
theorem dX0_init_21 : decode cX0_init 21 = .ok (.aload_n 0, 1) := by decide +kernel
theorem dX0_init_22 : decode cX0_init 22 = .ok (.getfield 11, 3) := by decide +kernel
theorem dX0_init_25 : decode cX0_init 25 = .ok (.iload_n 1, 1) := by decide +kernel
theorem dX0_init_26 : decode cX0_init 26 = .ok (.new 9, 3) := by decide +kernel
theorem dX0_init_29 : decode cX0_init 29 = .ok (.dup, 1) := by decide +kernel
theorem dX0_init_30 : decode cX0_init 30 = .ok (.invokespecial 17, 3) := by decide +kernel
theorem dX0_init_33 : decode cX0_init 33 = .ok (.aastore, 1) := by decide +kernel
theorem dX0_init_34 : decode cX0_init 34 = .ok (.iinc 1 1, 3) := by decide +kernel
theorem dX0_init_37 : decode cX0_init 37 = .ok (.goto (-22), 3) := by decide +kernel
theorem dX0_init_40 : decode cX0_init 40 = .ok (.return_, 1) := by decide +kernel
theorem dX0_clear_0 : decode cX0_clear 0 = .ok (.aload_n 0, 1) := by decide +kernel
theorem dX0_clear_1 : decode cX0_clear 1 = .ok (.iconst 0, 1) := by decide +kernel
theorem dX0_clear_2 : decode cX0_clear 2 = .ok (.putfield 18, 3) := by decide +kernel
theorem dX0_clear_5 : decode cX0_clear 5 = .ok (.aload_n 0, 1) := by decide +kernel
theorem dX0_clear_6 : decode cX0_clear 6 = .ok (.iconst 0, 1) := by decide +kernel
theorem dX0_clear_7 : decode cX0_clear 7 = .ok (.putfield 22, 3) := by decide +kernel
theorem dX0_clear_10 : decode cX0_clear 10 = .ok (.return_, 1) := by decide +kernel
theorem dX0_remember_0 : decode cX0_remember 0 = .ok (.aload_n 0, 1) := by decide +kernel
theorem dX0_remember_1 : decode cX0_remember 1 = .ok (.getfield 22, 3) := by decide +kernel
theorem dX0_remember_4 : decode cX0_remember 4 = .ok (.bipush 8, 2) := by decide +kernel
theorem dX0_remember_6 : decode cX0_remember 6 = .ok (.if_icmp .ne 26, 3) := by decide +kernel
theorem dX0_remember_9 : decode cX0_remember 9 = .ok (.aload_n 0, 1) := by decide +kernel
theorem dX0_remember_10 : decode cX0_remember 10 = .ok (.aload_n 0, 1) := by decide +kernel
theorem dX0_remember_11 : decode cX0_remember 11 = .ok (.getfield 18, 3) := by decide +kernel
theorem dX0_remember_14 : decode cX0_remember 14 = .ok (.iconst 1, 1) := by decide +kernel
theorem dX0_remember_15 : decode cX0_remember 15 = .ok (.iadd, 1) := by decide +kernel
theorem dX0_remember_16 : decode cX0_remember 16 = .ok (.bipush 8, 2) := by decide +kernel
theorem dX0_remember_18 : decode cX0_remember 18 = .ok (.irem, 1) := by decide +kernel
theorem dX0_remember_19 : decode cX0_remember 19 = .ok (.putfield 18, 3) := by decide +kernel
theorem dX0_remember_22 : decode cX0_remember 22 = .ok (.aload_n 0, 1) := by decide +kernel
theorem dX0_remember_23 : decode cX0_remember 23 = .ok (.dup, 1) := by decide +kernel
theorem dX0_remember_24 : decode cX0_remember 24 = .ok (.getfield 22, 3) := by decide +kernel
theorem dX0_remember_27 : decode cX0_remember 27 = .ok (.iconst 1, 1) := by decide +kernel
theorem dX0_remember_28 : decode cX0_remember 28 = .ok (.isub, 1) := by decide +kernel
theorem dX0_remember_29 : decode cX0_remember 29 = .ok (.putfield 22, 3) := by decide +kernel
theorem dX0_remember_32 : decode cX0_remember 32 = .ok (.aload_n 0, 1) := by decide +kernel
theorem dX0_remember_33 : decode cX0_remember 33 = .ok (.getfield 11, 3) := by decide +kernel
theorem dX0_remember_36 : decode cX0_remember 36 = .ok (.aload_n 0, 1) := by decide +kernel
theorem dX0_remember_37 : decode cX0_remember 37 = .ok (.getfield 18, 3) := by decide +kernel
theorem dX0_remember_40 : decode cX0_remember 40 = .ok (.aload_n 0, 1) := by decide +kernel
theorem dX0_remember_41 : decode cX0_remember 41 = .ok (.getfield 22, 3) := by decide +kernel
theorem dX0_remember_44 : decode cX0_remember 44 = .ok (.iadd, 1) := by decide +kernel
theorem dX0_remember_45 : decode cX0_remember 45 = .ok (.bipush 8, 2) := by decide +kernel
theorem dX0_remember_47 : decode cX0_remember 47 = .ok (.irem, 1) := by decide +kernel
theorem dX0_remember_48 : decode cX0_remember 48 = .ok (.aaload, 1) := by decide +kernel
theorem dX0_remember_49 : decode cX0_remember 49 = .ok (.aload_n 1, 1) := by decide +kernel
theorem dX0_remember_50 : decode cX0_remember 50 = .ok (.invokevirtual 25, 3) := by decide +kernel
theorem dX0_remember_53 : decode cX0_remember 53 = .ok (.aload_n 0, 1) := by decide +kernel
theorem dX0_remember_54 : decode cX0_remember 54 = .ok (.dup, 1) := by decide +kernel
theorem dX0_remember_55 : decode cX0_remember 55 = .ok (.getfield 22, 3) := by decide +kernel
theorem dX0_remember_58 : decode cX0_remember 58 = .ok (.iconst 1, 1) := by decide +kernel
theorem dX0_remember_59 : decode cX0_remember 59 = .ok (.iadd, 1) := by decide +kernel
theorem dX0_remember_60 : decode cX0_remember 60 = .ok (.putfield 22, 3) := by decide +kernel
theorem dX0_remember_63 : decode cX0_remember 63 = .ok (.return_, 1) := by decide +kernel
theorem dX0_bringBack_0 : decode cX0_bringBack 0 = .ok (.aload_n 0, 1) := by decide +kernel
theorem dX0_bringBack_1 : decode cX0_bringBack 1 = .ok (.getfield 22, 3) := by decide +kernel
theorem dX0_bringBack_4 : decode cX0_bringBack 4 = .ok (.ifCond .le 34, 3) := by decide +kernel
theorem dX0_bringBack_7 : decode cX0_bringBack 7 = .ok (.aload_n 0, 1) := by decide +kernel
theorem dX0_bringBack_8 : decode cX0_bringBack 8 = .ok (.dup, 1) := by decide +kernel
theorem dX0_bringBack_9 : decode cX0_bringBack 9 = .ok (.getfield 22, 3) := by decide +kernel
theorem dX0_bringBack_12 : decode cX0_bringBack 12 = .ok (.iconst 1, 1) := by decide +kernel
theorem dX0_bringBack_13 : decode cX0_bringBack 13 = .ok (.isub, 1) := by decide +kernel
theorem dX0_bringBack_14 : decode cX0_bringBack 14 = .ok (.putfield 22, 3) := by decide +kernel
theorem dX0_bringBack_17 : decode cX0_bringBack 17 = .ok (.aload_n 1, 1) := by decide +kernel
theorem dX0_bringBack_18 : decode cX0_bringBack 18 = .ok (.aload_n 0, 1) := by decide +kernel
theorem dX0_bringBack_19 : decode cX0_bringBack 19 = .ok (.getfield 11, 3) := by decide +kernel
theorem dX0_bringBack_22 : decode cX0_bringBack 22 = .ok (.aload_n 0, 1) := by decide +kernel
theorem dX0_bringBack_23 : decode cX0_bringBack 23 = .ok (.getfield 18, 3) := by decide +kernel
theorem dX0_bringBack_26 : decode cX0_bringBack 26 = .ok (.aload_n 0, 1) := by decide +kernel
theorem dX0_bringBack_27 : decode cX0_bringBack 27 = .ok (.getfield 22, 3) := by decide +kernel
theorem dX0_bringBack_30 : decode cX0_bringBack 30 = .ok (.iadd, 1) := by decide +kernel
theorem dX0_bringBack_31 : decode cX0_bringBack 31 = .ok (.bipush 8, 2) := by decide +kernel
theorem dX0_bringBack_33 : decode cX0_bringBack 33 = .ok (.irem, 1) := by decide +kernel
theorem dX0_bringBack_34 : decode cX0_bringBack 34 = .ok (.aaload, 1) := by decide +kernel
theorem dX0_bringBack_35 : decode cX0_bringBack 35 = .ok (.invokevirtual 25, 3) := by decide +kernel
theorem dX0_bringBack_38 : decode cX0_bringBack 38 = .ok (.return_, 1) := by decide +kernel
theorem dX1_init_0 : decode cX1_init 0 = .ok (.aload_n 0, 1) := by decide +kernel
theorem dX1_init_1 : decode cX1_init 1 = .ok (.invokespecial 3, 3) := by decide +kernel
theorem dX1_init_4 : decode cX1_init 4 = .ok (.aload_n 0, 1) := by decide +kernel
theorem dX1_init_5 : decode cX1_init 5 = .ok (.bipush 120, 2) := by decide +kernel
theorem dX1_init_7 : decode cX1_init 7 = .ok (.newarray .int, 2) := by decide +kernel
theorem dX1_init_9 : decode cX1_init 9 = .ok (.putfield 11, 3) := by decide +kernel
theorem dX1_init_12 : decode cX1_init 12 = .ok (.return_, 1) := by decide +kernel
theorem dX1_clear_0 : decode cX1_clear 0 = .ok (.aload_n 0, 1) := by decide +kernel
theorem dX1_clear_1 : decode cX1_clear 1 = .ok (.iconst 0, 1) := by decide +kernel
theorem dX1_clear_2 : decode cX1_clear 2 = .ok (.putfield 15, 3) := by decide +kernel
theorem dX1_clear_5 : decode cX1_clear 5 = .ok (.aload_n 0, 1) := by decide +kernel
theorem dX1_clear_6 : decode cX1_clear 6 = .ok (.iconst 0, 1) := by decide +kernel
theorem dX1_clear_7 : decode cX1_clear 7 = .ok (.putfield 19, 3) := by decide +kernel
theorem dX1_clear_10 : decode cX1_clear 10 = .ok (.return_, 1) := by decide +kernel
theorem dX1_copyFrom_0 : decode cX1_copyFrom 0 = .ok (.aload_n 1, 1) := by decide +kernel
theorem dX1_copyFrom_1 : decode cX1_copyFrom 1 = .ok (.getfield 11, 3) := by decide +kernel
theorem dX1_copyFrom_4 : decode cX1_copyFrom 4 = .ok (.iconst 0, 1) := by decide +kernel
theorem dX1_copyFrom_5 : decode cX1_copyFrom 5 = .ok (.aload_n 0, 1) := by decide +kernel
theorem dX1_copyFrom_6 : decode cX1_copyFrom 6 = .ok (.getfield 11, 3) := by decide +kernel
theorem dX1_copyFrom_9 : decode cX1_copyFrom 9 = .ok (.iconst 0, 1) := by decide +kernel
theorem dX1_copyFrom_10 : decode cX1_copyFrom 10 = .ok (.aload_n 0, 1) := by decide +kernel
theorem dX1_copyFrom_11 : decode cX1_copyFrom 11 = .ok (.getfield 11, 3) := by decide +kernel
theorem dX1_copyFrom_14 : decode cX1_copyFrom 14 = .ok (.arraylength, 1) := by decide +kernel
theorem dX1_copyFrom_15 : decode cX1_copyFrom 15 = .ok (.invokestatic 22, 3) := by decide +kernel
theorem dX1_copyFrom_18 : decode cX1_copyFrom 18 = .ok (.aload_n 0, 1) := by decide +kernel
theorem dX1_copyFrom_19 : decode cX1_copyFrom 19 = .ok (.aload_n 1, 1) := by decide +kernel
theorem dX1_copyFrom_20 : decode cX1_copyFrom 20 = .ok (.getfield 15, 3) := by decide +kernel
theorem dX1_copyFrom_23 : decode cX1_copyFrom 23 = .ok (.putfield 15, 3) := by decide +kernel
theorem dX1_copyFrom_26 : decode cX1_copyFrom 26 = .ok (.aload_n 0, 1) := by decide +kernel
theorem dX1_copyFrom_27 : decode cX1_copyFrom 27 = .ok (.aload_n 1, 1) := by decide +kernel
theorem dX1_copyFrom_28 : decode cX1_copyFrom 28 = .ok (.getfield 19, 3) := by decide +kernel
theorem dX1_copyFrom_31 : decode cX1_copyFrom 31 = .ok (.putfield 19, 3) := by decide +kernel
theorem dX1_copyFrom_34 : decode cX1_copyFrom 34 = .ok (.return_, 1) := by decide +kernel
theorem dX1_note_0 : decode cX1_note 0 = .ok (.aload_n 0, 1) := by decide +kernel
theorem dX1_note_1 : decode cX1_note 1 = .ok (.getfield 19, 3) := by decide +kernel
theorem dX1_note_4 : decode cX1_note 4 = .ok (.bipush 40, 2) := by decide +kernel
theorem dX1_note_6 : decode cX1_note 6 = .ok (.if_icmp .ne 26, 3) := by decide +kernel
theorem dX1_note_9 : decode cX1_note 9 = .ok (.aload_n 0, 1) := by decide +kernel
theorem dX1_note_10 : decode cX1_note 10 = .ok (.aload_n 0, 1) := by decide +kernel
theorem dX1_note_11 : decode cX1_note 11 = .ok (.getfield 15, 3) := by decide +kernel
theorem dX1_note_14 : decode cX1_note 14 = .ok (.iconst 1, 1) := by decide +kernel
theorem dX1_note_15 : decode cX1_note 15 = .ok (.iadd, 1) := by decide +kernel
theorem dX1_note_16 : decode cX1_note 16 = .ok (.bipush 40, 2) := by decide +kernel
theorem dX1_note_18 : decode cX1_note 18 = .ok (.irem, 1) := by decide +kernel
theorem dX1_note_19 : decode cX1_note 19 = .ok (.putfield 15, 3) := by decide +kernel
theorem dX1_note_22 : decode cX1_note 22 = .ok (.aload_n 0, 1) := by decide +kernel
theorem dX1_note_23 : decode cX1_note 23 = .ok (.dup, 1) := by decide +kernel
theorem dX1_note_24 : decode cX1_note 24 = .ok (.getfield 19, 3) := by decide +kernel
theorem dX1_note_27 : decode cX1_note 27 = .ok (.iconst 1, 1) := by decide +kernel
theorem dX1_note_28 : decode cX1_note 28 = .ok (.isub, 1) := by decide +kernel
theorem dX1_note_29 : decode cX1_note 29 = .ok (.putfield 19, 3) := by decide +kernel
theorem dX1_note_32 : decode cX1_note 32 = .ok (.aload_n 0, 1) := by decide +kernel
theorem dX1_note_33 : decode cX1_note 33 = .ok (.getfield 15, 3) := by decide +kernel
theorem dX1_note_36 : decode cX1_note 36 = .ok (.aload_n 0, 1) := by decide +kernel
theorem dX1_note_37 : decode cX1_note 37 = .ok (.getfield 19, 3) := by decide +kernel
theorem dX1_note_40 : decode cX1_note 40 = .ok (.iadd, 1) := by decide +kernel
theorem dX1_note_41 : decode cX1_note 41 = .ok (.bipush 40, 2) := by decide +kernel
theorem dX1_note_43 : decode cX1_note 43 = .ok (.irem, 1) := by decide +kernel
theorem dX1_note_44 : decode cX1_note 44 = .ok (.iconst 3, 1) := by decide +kernel
theorem dX1_note_45 : decode cX1_note 45 = .ok (.imul, 1) := by decide +kernel
theorem dX1_note_46 : decode cX1_note 46 = .ok (.istore 4, 2) := by decide +kernel
theorem dX1_note_48 : decode cX1_note 48 = .ok (.aload_n 0, 1) := by decide +kernel
theorem dX1_note_49 : decode cX1_note 49 = .ok (.getfield 11, 3) := by decide +kernel
theorem dX1_note_52 : decode cX1_note 52 = .ok (.iload 4, 2) := by decide +kernel
theorem dX1_note_54 : decode cX1_note 54 = .ok (.iload_n 1, 1) := by decide +kernel
theorem dX1_note_55 : decode cX1_note 55 = .ok (.iastore, 1) := by decide +kernel
theorem dX1_note_56 : decode cX1_note 56 = .ok (.aload_n 0, 1) := by decide +kernel
theorem dX1_note_57 : decode cX1_note 57 = .ok (.getfield 11, 3) := by decide +kernel
theorem dX1_note_60 : decode cX1_note 60 = .ok (.iload 4, 2) := by decide +kernel
theorem dX1_note_62 : decode cX1_note 62 = .ok (.iconst 1, 1) := by decide +kernel
theorem dX1_note_63 : decode cX1_note 63 = .ok (.iadd, 1) := by decide +kernel
theorem dX1_note_64 : decode cX1_note 64 = .ok (.iload_n 2, 1) := by decide +kernel
theorem dX1_note_65 : decode cX1_note 65 = .ok (.iastore, 1) := by decide +kernel
theorem dX1_note_66 : decode cX1_note 66 = .ok (.aload_n 0, 1) := by decide +kernel
theorem dX1_note_67 : decode cX1_note 67 = .ok (.getfield 11, 3) := by decide +kernel
theorem dX1_note_70 : decode cX1_note 70 = .ok (.iload 4, 2) := by decide +kernel
theorem dX1_note_72 : decode cX1_note 72 = .ok (.iconst 2, 1) := by decide +kernel
theorem dX1_note_73 : decode cX1_note 73 = .ok (.iadd, 1) := by decide +kernel
theorem dX1_note_74 : decode cX1_note 74 = .ok (.iload_n 3, 1) := by decide +kernel
theorem dX1_note_75 : decode cX1_note 75 = .ok (.iastore, 1) := by decide +kernel
theorem dX1_note_76 : decode cX1_note 76 = .ok (.aload_n 0, 1) := by decide +kernel
theorem dX1_note_77 : decode cX1_note 77 = .ok (.dup, 1) := by decide +kernel
theorem dX1_note_78 : decode cX1_note 78 = .ok (.getfield 19, 3) := by decide +kernel
theorem dX1_note_81 : decode cX1_note 81 = .ok (.iconst 1, 1) := by decide +kernel
theorem dX1_note_82 : decode cX1_note 82 = .ok (.iadd, 1) := by decide +kernel
theorem dX1_note_83 : decode cX1_note 83 = .ok (.putfield 19, 3) := by decide +kernel
theorem dX1_note_86 : decode cX1_note 86 = .ok (.return_, 1) := by decide +kernel
theorem dX1_part_0 : decode cX1_part 0 = .ok (.aload_n 0, 1) := by decide +kernel
theorem dX1_part_1 : decode cX1_part 1 = .ok (.getfield 11, 3) := by decide +kernel
theorem dX1_part_4 : decode cX1_part 4 = .ok (.aload_n 0, 1) := by decide +kernel
theorem dX1_part_5 : decode cX1_part 5 = .ok (.getfield 15, 3) := by decide +kernel
theorem dX1_part_8 : decode cX1_part 8 = .ok (.iload_n 1, 1) := by decide +kernel
theorem dX1_part_9 : decode cX1_part 9 = .ok (.iadd, 1) := by decide +kernel
theorem dX1_part_10 : decode cX1_part 10 = .ok (.bipush 40, 2) := by decide +kernel
theorem dX1_part_12 : decode cX1_part 12 = .ok (.irem, 1) := by decide +kernel
theorem dX1_part_13 : decode cX1_part 13 = .ok (.iconst 3, 1) := by decide +kernel
theorem dX1_part_14 : decode cX1_part 14 = .ok (.imul, 1) := by decide +kernel
theorem dX1_part_15 : decode cX1_part 15 = .ok (.iload_n 2, 1) := by decide +kernel
theorem dX1_part_16 : decode cX1_part 16 = .ok (.iadd, 1) := by decide +kernel
theorem dX1_part_17 : decode cX1_part 17 = .ok (.iaload, 1) := by decide +kernel
theorem dX1_part_18 : decode cX1_part 18 = .ok (.ireturn, 1) := by decide +kernel
theorem dX2_init_0 : decode cX2_init 0 = .ok (.aload_n 0, 1) := by decide +kernel
theorem dX2_init_1 : decode cX2_init 1 = .ok (.invokespecial 3, 3) := by decide +kernel
theorem dX2_init_4 : decode cX2_init 4 = .ok (.aload_n 0, 1) := by decide +kernel
theorem dX2_init_5 : decode cX2_init 5 = .ok (.bipush 60, 2) := by decide +kernel
theorem dX2_init_7 : decode cX2_init 7 = .ok (.newarray .int, 2) := by decide +kernel
theorem dX2_init_9 : decode cX2_init 9 = .ok (.putfield 9, 3) := by decide +kernel
theorem dX2_init_12 : decode cX2_init 12 = .ok (.aload_n 0, 1) := by decide +kernel
theorem dX2_init_13 : decode cX2_init 13 = .ok (.bipush 60, 2) := by decide +kernel
theorem dX2_init_15 : decode cX2_init 15 = .ok (.newarray .int, 2) := by decide +kernel
theorem dX2_init_17 : decode cX2_init 17 = .ok (.putfield 15, 3) := by decide +kernel
theorem dX2_init_20 : decode cX2_init 20 = .ok (.aload_n 0, 1) := by decide +kernel
theorem dX2_init_21 : decode cX2_init 21 = .ok (.bipush 60, 2) := by decide +kernel
theorem dX2_init_23 : decode cX2_init 23 = .ok (.newarray .int, 2) := by decide +kernel
theorem dX2_init_25 : decode cX2_init 25 = .ok (.putfield 18, 3) := by decide +kernel
theorem dX2_init_28 : decode cX2_init 28 = .ok (.aload_n 0, 1) := by decide +kernel
theorem dX2_init_29 : decode cX2_init 29 = .ok (.bipush 60, 2) := by decide +kernel
theorem dX2_init_31 : decode cX2_init 31 = .ok (.newarray .int, 2) := by decide +kernel
theorem dX2_init_33 : decode cX2_init 33 = .ok (.putfield 21, 3) := by decide +kernel
theorem dX2_init_36 : decode cX2_init 36 = .ok (.aload_n 0, 1) := by decide +kernel
theorem dX2_init_37 : decode cX2_init 37 = .ok (.bipush 100, 2) := by decide +kernel
theorem dX2_init_39 : decode cX2_init 39 = .ok (.newarray .int, 2) := by decide +kernel
theorem dX2_init_41 : decode cX2_init 41 = .ok (.putfield 24, 3) := by decide +kernel
theorem dX2_init_44 : decode cX2_init 44 = .ok (.return_, 1) := by decide +kernel
theorem dX2_build_0 : decode cX2_build 0 = .ok (.aload_n 0, 1) := by decide +kernel
theorem dX2_build_1 : decode cX2_build 1 = .ok (.aload_n 1, 1) := by decide +kernel
theorem dX2_build_2 : decode cX2_build 2 = .ok (.getfield 27, 3) := by decide +kernel
theorem dX2_build_5 : decode cX2_build 5 = .ok (.putfield 33, 3) := by decide +kernel
theorem dX2_build_8 : decode cX2_build 8 = .ok (.aload_n 0, 1) := by decide +kernel
theorem dX2_build_9 : decode cX2_build 9 = .ok (.aload_n 1, 1) := by decide +kernel
theorem dX2_build_10 : decode cX2_build 10 = .ok (.iload_n 2, 1) := by decide +kernel
theorem dX2_build_11 : decode cX2_build 11 = .ok (.invokevirtual 34, 3) := by decide +kernel
theorem dX2_build_14 : decode cX2_build 14 = .ok (.aload_n 0, 1) := by decide +kernel
theorem dX2_build_15 : decode cX2_build 15 = .ok (.invokevirtual 38, 3) := by decide +kernel
theorem dX2_build_18 : decode cX2_build 18 = .ok (.aload_n 0, 1) := by decide +kernel
theorem dX2_build_19 : decode cX2_build 19 = .ok (.invokevirtual 41, 3) := by decide +kernel
theorem dX2_build_22 : decode cX2_build 22 = .ok (.return_, 1) := by decide +kernel
theorem dX2_collectSteps_0 : decode cX2_collectSteps 0 = .ok (.aload_n 0, 1) := by decide +kernel
theorem dX2_collectSteps_1 : decode cX2_collectSteps 1 = .ok (.iconst 0, 1) := by decide +kernel
theorem dX2_collectSteps_2 : decode cX2_collectSteps 2 = .ok (.putfield 44, 3) := by decide +kernel
theorem dX2_collectSteps_5 : decode cX2_collectSteps 5 = .ok (.iconst 0, 1) := by decide +kernel
theorem dX2_collectSteps_6 : decode cX2_collectSteps 6 = .ok (.istore_n 3, 1) := by decide +kernel
theorem dX2_collectSteps_7 : decode cX2_collectSteps 7 = .ok (.iload_n 3, 1) := by decide +kernel
theorem dX2_collectSteps_8 : decode cX2_collectSteps 8 = .ok (.aload_n 1, 1) := by decide +kernel
theorem dX2_collectSteps_9 : decode cX2_collectSteps 9 = .ok (.getfield 47, 3) := by decide +kernel
theorem dX2_collectSteps_12 : decode cX2_collectSteps 12 = .ok (.if_icmp .ge 81, 3) := by decide +kernel
theorem dX2_collectSteps_15 : decode cX2_collectSteps 15 = .ok (.aload_n 1, 1) := by decide +kernel
theorem dX2_collectSteps_16 : decode cX2_collectSteps 16 = .ok (.getfield 50, 3) := by decide +kernel
theorem dX2_collectSteps_19 : decode cX2_collectSteps 19 = .ok (.iload_n 3, 1) := by decide +kernel
theorem dX2_collectSteps_20 : decode cX2_collectSteps 20 = .ok (.baload, 1) := by decide +kernel
theorem dX2_collectSteps_21 : decode cX2_collectSteps 21 = .ok (.ifCond .eq 66, 3) := by decide +kernel
theorem dX2_collectSteps_24 : decode cX2_collectSteps 24 = .ok (.iload_n 3, 1) := by decide +kernel
theorem dX2_collectSteps_25 : decode cX2_collectSteps 25 = .ok (.iload_n 2, 1) := by decide +kernel
theorem dX2_collectSteps_26 : decode cX2_collectSteps 26 = .ok (.if_icmp .eq 61, 3) := by decide +kernel
theorem dX2_collectSteps_29 : decode cX2_collectSteps 29 = .ok (.aload_n 1, 1) := by decide +kernel
theorem dX2_collectSteps_30 : decode cX2_collectSteps 30 = .ok (.getfield 54, 3) := by decide +kernel
theorem dX2_collectSteps_33 : decode cX2_collectSteps 33 = .ok (.iload_n 3, 1) := by decide +kernel
theorem dX2_collectSteps_34 : decode cX2_collectSteps 34 = .ok (.iaload, 1) := by decide +kernel
theorem dX2_collectSteps_35 : decode cX2_collectSteps 35 = .ok (.istore 4, 2) := by decide +kernel
theorem dX2_collectSteps_37 : decode cX2_collectSteps 37 = .ok (.aload_n 1, 1) := by decide +kernel
theorem dX2_collectSteps_38 : decode cX2_collectSteps 38 = .ok (.getfield 57, 3) := by decide +kernel
theorem dX2_collectSteps_41 : decode cX2_collectSteps 41 = .ok (.iload_n 3, 1) := by decide +kernel
theorem dX2_collectSteps_42 : decode cX2_collectSteps 42 = .ok (.iaload, 1) := by decide +kernel
theorem dX2_collectSteps_43 : decode cX2_collectSteps 43 = .ok (.istore 5, 2) := by decide +kernel
theorem dX2_collectSteps_45 : decode cX2_collectSteps 45 = .ok (.aload_n 1, 1) := by decide +kernel
theorem dX2_collectSteps_46 : decode cX2_collectSteps 46 = .ok (.getfield 60, 3) := by decide +kernel
theorem dX2_collectSteps_49 : decode cX2_collectSteps 49 = .ok (.iload_n 3, 1) := by decide +kernel
theorem dX2_collectSteps_50 : decode cX2_collectSteps 50 = .ok (.iaload, 1) := by decide +kernel
theorem dX2_collectSteps_51 : decode cX2_collectSteps 51 = .ok (.istore 6, 2) := by decide +kernel
theorem dX2_collectSteps_53 : decode cX2_collectSteps 53 = .ok (.aload_n 0, 1) := by decide +kernel
theorem dX2_collectSteps_54 : decode cX2_collectSteps 54 = .ok (.iload 4, 2) := by decide +kernel
theorem dX2_collectSteps_56 : decode cX2_collectSteps 56 = .ok (.iload 5, 2) := by decide +kernel
theorem dX2_collectSteps_58 : decode cX2_collectSteps 58 = .ok (.iload 6, 2) := by decide +kernel
theorem dX2_collectSteps_60 : decode cX2_collectSteps 60 = .ok (.invokestatic 63, 3) := by decide +kernel
theorem dX2_collectSteps_63 : decode cX2_collectSteps 63 = .ok (.iload 4, 2) := by decide +kernel
theorem dX2_collectSteps_65 : decode cX2_collectSteps 65 = .ok (.iload 5, 2) := by decide +kernel
theorem dX2_collectSteps_67 : decode cX2_collectSteps 67 = .ok (.iload 6, 2) := by decide +kernel
theorem dX2_collectSteps_69 : decode cX2_collectSteps 69 = .ok (.invokestatic 67, 3) := by decide +kernel
theorem dX2_collectSteps_72 : decode cX2_collectSteps 72 = .ok (.iload 6, 2) := by decide +kernel
theorem dX2_collectSteps_74 : decode cX2_collectSteps 74 = .ok (.aload_n 1, 1) := by decide +kernel
theorem dX2_collectSteps_75 : decode cX2_collectSteps 75 = .ok (.getfield 70, 3) := by decide +kernel
theorem dX2_collectSteps_78 : decode cX2_collectSteps 78 = .ok (.iload_n 3, 1) := by decide +kernel
theorem dX2_collectSteps_79 : decode cX2_collectSteps 79 = .ok (.iaload, 1) := by decide +kernel
theorem dX2_collectSteps_80 : decode cX2_collectSteps 80 = .ok (.invokestatic 73, 3) := by decide +kernel
theorem dX2_collectSteps_83 : decode cX2_collectSteps 83 = .ok (.iload_n 3, 1) := by decide +kernel
theorem dX2_collectSteps_84 : decode cX2_collectSteps 84 = .ok (.invokevirtual 77, 3) := by decide +kernel
theorem dX2_collectSteps_87 : decode cX2_collectSteps 87 = .ok (.iinc 3 1, 3) := by decide +kernel
theorem dX2_collectSteps_90 : decode cX2_collectSteps 90 = .ok (.goto (-83), 3) := by decide +kernel
theorem dX2_collectSteps_93 : decode cX2_collectSteps 93 = .ok (.iconst 1, 1) := by decide +kernel
theorem dX2_collectSteps_94 : decode cX2_collectSteps 94 = .ok (.istore_n 3, 1) := by decide +kernel
theorem dX2_collectSteps_95 : decode cX2_collectSteps 95 = .ok (.iload_n 3, 1) := by decide +kernel
theorem dX2_collectSteps_96 : decode cX2_collectSteps 96 = .ok (.aload_n 1, 1) := by decide +kernel
theorem dX2_collectSteps_97 : decode cX2_collectSteps 97 = .ok (.getfield 27, 3) := by decide +kernel
theorem dX2_collectSteps_100 : decode cX2_collectSteps 100 = .ok (.if_icmp .ge 35, 3) := by decide +kernel
theorem dX2_collectSteps_103 : decode cX2_collectSteps 103 = .ok (.aload_n 0, 1) := by decide +kernel
theorem dX2_collectSteps_104 : decode cX2_collectSteps 104 = .ok (.iconst 0, 1) := by decide +kernel
theorem dX2_collectSteps_105 : decode cX2_collectSteps 105 = .ok (.iload_n 3, 1) := by decide +kernel
theorem dX2_collectSteps_106 : decode cX2_collectSteps 106 = .ok (.aload_n 1, 1) := by decide +kernel
theorem dX2_collectSteps_107 : decode cX2_collectSteps 107 = .ok (.getfield 81, 3) := by decide +kernel
theorem dX2_collectSteps_110 : decode cX2_collectSteps 110 = .ok (.bipush 100, 2) := by decide +kernel
theorem dX2_collectSteps_112 : decode cX2_collectSteps 112 = .ok (.iload_n 3, 1) := by decide +kernel
theorem dX2_collectSteps_113 : decode cX2_collectSteps 113 = .ok (.iadd, 1) := by decide +kernel
theorem dX2_collectSteps_114 : decode cX2_collectSteps 114 = .ok (.invokevirtual 77, 3) := by decide +kernel
theorem dX2_collectSteps_117 : decode cX2_collectSteps 117 = .ok (.aload_n 0, 1) := by decide +kernel
theorem dX2_collectSteps_118 : decode cX2_collectSteps 118 = .ok (.iload_n 3, 1) := by decide +kernel
theorem dX2_collectSteps_119 : decode cX2_collectSteps 119 = .ok (.iconst 0, 1) := by decide +kernel
theorem dX2_collectSteps_120 : decode cX2_collectSteps 120 = .ok (.iconst 0, 1) := by decide +kernel
theorem dX2_collectSteps_121 : decode cX2_collectSteps 121 = .ok (.sipush 200, 3) := by decide +kernel
theorem dX2_collectSteps_124 : decode cX2_collectSteps 124 = .ok (.iload_n 3, 1) := by decide +kernel
theorem dX2_collectSteps_125 : decode cX2_collectSteps 125 = .ok (.iadd, 1) := by decide +kernel
theorem dX2_collectSteps_126 : decode cX2_collectSteps 126 = .ok (.invokevirtual 77, 3) := by decide +kernel
theorem dX2_collectSteps_129 : decode cX2_collectSteps 129 = .ok (.iinc 3 1, 3) := by decide +kernel
theorem dX2_collectSteps_132 : decode cX2_collectSteps 132 = .ok (.goto (-37), 3) := by decide +kernel
theorem dX2_collectSteps_135 : decode cX2_collectSteps 135 = .ok (.iconst 1, 1) := by decide +kernel
theorem dX2_collectSteps_136 : decode cX2_collectSteps 136 = .ok (.istore_n 3, 1) := by decide +kernel
theorem dX2_collectSteps_137 : decode cX2_collectSteps 137 = .ok (.iload_n 3, 1) := by decide +kernel
theorem dX2_collectSteps_138 : decode cX2_collectSteps 138 = .ok (.aload_n 1, 1) := by decide +kernel
theorem dX2_collectSteps_139 : decode cX2_collectSteps 139 = .ok (.getfield 27, 3) := by decide +kernel
theorem dX2_collectSteps_142 : decode cX2_collectSteps 142 = .ok (.if_icmp .ge 52, 3) := by decide +kernel
theorem dX2_collectSteps_145 : decode cX2_collectSteps 145 = .ok (.aload_n 1, 1) := by decide +kernel
theorem dX2_collectSteps_146 : decode cX2_collectSteps 146 = .ok (.iload_n 3, 1) := by decide +kernel
theorem dX2_collectSteps_147 : decode cX2_collectSteps 147 = .ok (.invokevirtual 84, 3) := by decide +kernel
theorem dX2_collectSteps_150 : decode cX2_collectSteps 150 = .ok (.ifCond .eq 38, 3) := by decide +kernel
theorem dX2_collectSteps_153 : decode cX2_collectSteps 153 = .ok (.aload_n 0, 1) := by decide +kernel
theorem dX2_collectSteps_154 : decode cX2_collectSteps 154 = .ok (.iconst 0, 1) := by decide +kernel
theorem dX2_collectSteps_155 : decode cX2_collectSteps 155 = .ok (.iload_n 3, 1) := by decide +kernel
theorem dX2_collectSteps_156 : decode cX2_collectSteps 156 = .ok (.aload_n 1, 1) := by decide +kernel
theorem dX2_collectSteps_157 : decode cX2_collectSteps 157 = .ok (.getfield 88, 3) := by decide +kernel
theorem dX2_collectSteps_160 : decode cX2_collectSteps 160 = .ok (.iload_n 3, 1) := by decide +kernel
theorem dX2_collectSteps_161 : decode cX2_collectSteps 161 = .ok (.iaload, 1) := by decide +kernel
theorem dX2_collectSteps_162 : decode cX2_collectSteps 162 = .ok (.sipush 300, 3) := by decide +kernel
theorem dX2_collectSteps_165 : decode cX2_collectSteps 165 = .ok (.iload_n 3, 1) := by decide +kernel
theorem dX2_collectSteps_166 : decode cX2_collectSteps 166 = .ok (.iadd, 1) := by decide +kernel
theorem dX2_collectSteps_167 : decode cX2_collectSteps 167 = .ok (.invokevirtual 77, 3) := by decide +kernel
theorem dX2_collectSteps_170 : decode cX2_collectSteps 170 = .ok (.aload_n 0, 1) := by decide +kernel
theorem dX2_collectSteps_171 : decode cX2_collectSteps 171 = .ok (.iload_n 3, 1) := by decide +kernel
theorem dX2_collectSteps_172 : decode cX2_collectSteps 172 = .ok (.iconst 0, 1) := by decide +kernel
theorem dX2_collectSteps_173 : decode cX2_collectSteps 173 = .ok (.aload_n 1, 1) := by decide +kernel
theorem dX2_collectSteps_174 : decode cX2_collectSteps 174 = .ok (.getfield 88, 3) := by decide +kernel
theorem dX2_collectSteps_177 : decode cX2_collectSteps 177 = .ok (.iload_n 3, 1) := by decide +kernel
theorem dX2_collectSteps_178 : decode cX2_collectSteps 178 = .ok (.iaload, 1) := by decide +kernel
theorem dX2_collectSteps_179 : decode cX2_collectSteps 179 = .ok (.ineg, 1) := by decide +kernel
theorem dX2_collectSteps_180 : decode cX2_collectSteps 180 = .ok (.sipush 400, 3) := by decide +kernel
theorem dX2_collectSteps_183 : decode cX2_collectSteps 183 = .ok (.iload_n 3, 1) := by decide +kernel
theorem dX2_collectSteps_184 : decode cX2_collectSteps 184 = .ok (.iadd, 1) := by decide +kernel
theorem dX2_collectSteps_185 : decode cX2_collectSteps 185 = .ok (.invokevirtual 77, 3) := by decide +kernel
theorem dX2_collectSteps_188 : decode cX2_collectSteps 188 = .ok (.iinc 3 1, 3) := by decide +kernel
theorem dX2_collectSteps_191 : decode cX2_collectSteps 191 = .ok (.goto (-54), 3) := by decide +kernel
theorem dX2_collectSteps_194 : decode cX2_collectSteps 194 = .ok (.return_, 1) := by decide +kernel
theorem dX2_collect_0 : decode cX2_collect 0 = .ok (.aload_n 0, 1) := by decide +kernel
theorem dX2_collect_1 : decode cX2_collect 1 = .ok (.getfield 44, 3) := by decide +kernel
theorem dX2_collect_4 : decode cX2_collect 4 = .ok (.bipush 60, 2) := by decide +kernel
theorem dX2_collect_6 : decode cX2_collect 6 = .ok (.if_icmp .ge 54, 3) := by decide +kernel
theorem dX2_collect_9 : decode cX2_collect 9 = .ok (.aload_n 0, 1) := by decide +kernel
theorem dX2_collect_10 : decode cX2_collect 10 = .ok (.getfield 9, 3) := by decide +kernel
theorem dX2_collect_13 : decode cX2_collect 13 = .ok (.aload_n 0, 1) := by decide +kernel
theorem dX2_collect_14 : decode cX2_collect 14 = .ok (.getfield 44, 3) := by decide +kernel
theorem dX2_collect_17 : decode cX2_collect 17 = .ok (.iload_n 1, 1) := by decide +kernel
theorem dX2_collect_18 : decode cX2_collect 18 = .ok (.iastore, 1) := by decide +kernel
theorem dX2_collect_19 : decode cX2_collect 19 = .ok (.aload_n 0, 1) := by decide +kernel
theorem dX2_collect_20 : decode cX2_collect 20 = .ok (.getfield 15, 3) := by decide +kernel
theorem dX2_collect_23 : decode cX2_collect 23 = .ok (.aload_n 0, 1) := by decide +kernel
theorem dX2_collect_24 : decode cX2_collect 24 = .ok (.getfield 44, 3) := by decide +kernel
theorem dX2_collect_27 : decode cX2_collect 27 = .ok (.iload_n 2, 1) := by decide +kernel
theorem dX2_collect_28 : decode cX2_collect 28 = .ok (.iastore, 1) := by decide +kernel
theorem dX2_collect_29 : decode cX2_collect 29 = .ok (.aload_n 0, 1) := by decide +kernel
theorem dX2_collect_30 : decode cX2_collect 30 = .ok (.getfield 18, 3) := by decide +kernel
theorem dX2_collect_33 : decode cX2_collect 33 = .ok (.aload_n 0, 1) := by decide +kernel
theorem dX2_collect_34 : decode cX2_collect 34 = .ok (.getfield 44, 3) := by decide +kernel
theorem dX2_collect_37 : decode cX2_collect 37 = .ok (.iload_n 3, 1) := by decide +kernel
theorem dX2_collect_38 : decode cX2_collect 38 = .ok (.iastore, 1) := by decide +kernel
theorem dX2_collect_39 : decode cX2_collect 39 = .ok (.aload_n 0, 1) := by decide +kernel
theorem dX2_collect_40 : decode cX2_collect 40 = .ok (.getfield 21, 3) := by decide +kernel
theorem dX2_collect_43 : decode cX2_collect 43 = .ok (.aload_n 0, 1) := by decide +kernel
theorem dX2_collect_44 : decode cX2_collect 44 = .ok (.getfield 44, 3) := by decide +kernel
theorem dX2_collect_47 : decode cX2_collect 47 = .ok (.iload 4, 2) := by decide +kernel
theorem dX2_collect_49 : decode cX2_collect 49 = .ok (.iastore, 1) := by decide +kernel
theorem dX2_collect_50 : decode cX2_collect 50 = .ok (.aload_n 0, 1) := by decide +kernel
theorem dX2_collect_51 : decode cX2_collect 51 = .ok (.dup, 1) := by decide +kernel
theorem dX2_collect_52 : decode cX2_collect 52 = .ok (.getfield 44, 3) := by decide +kernel
theorem dX2_collect_55 : decode cX2_collect 55 = .ok (.iconst 1, 1) := by decide +kernel
theorem dX2_collect_56 : decode cX2_collect 56 = .ok (.iadd, 1) := by decide +kernel
theorem dX2_collect_57 : decode cX2_collect 57 = .ok (.putfield 44, 3) := by decide +kernel
theorem dX2_collect_60 : decode cX2_collect 60 = .ok (.return_, 1) := by decide +kernel
theorem dX2_startWeights_0 : decode cX2_startWeights 0 = .ok (.iconst 0, 1) := by decide +kernel
theorem dX2_startWeights_1 : decode cX2_startWeights 1 = .ok (.istore_n 1, 1) := by decide +kernel
theorem dX2_startWeights_2 : decode cX2_startWeights 2 = .ok (.iload_n 1, 1) := by decide +kernel
theorem dX2_startWeights_3 : decode cX2_startWeights 3 = .ok (.aload_n 0, 1) := by decide +kernel
theorem dX2_startWeights_4 : decode cX2_startWeights 4 = .ok (.getfield 33, 3) := by decide +kernel
theorem dX2_startWeights_7 : decode cX2_startWeights 7 = .ok (.if_icmp .ge 47, 3) := by decide +kernel
theorem dX2_startWeights_10 : decode cX2_startWeights 10 = .ok (.iconst 0, 1) := by decide +kernel
theorem dX2_startWeights_11 : decode cX2_startWeights 11 = .ok (.istore_n 2, 1) := by decide +kernel
theorem dX2_startWeights_12 : decode cX2_startWeights 12 = .ok (.iload_n 2, 1) := by decide +kernel
theorem dX2_startWeights_13 : decode cX2_startWeights 13 = .ok (.aload_n 0, 1) := by decide +kernel
theorem dX2_startWeights_14 : decode cX2_startWeights 14 = .ok (.getfield 33, 3) := by decide +kernel
theorem dX2_startWeights_17 : decode cX2_startWeights 17 = .ok (.if_icmp .ge 31, 3) := by decide +kernel
theorem dX2_startWeights_20 : decode cX2_startWeights 20 = .ok (.aload_n 0, 1) := by decide +kernel
theorem dX2_startWeights_21 : decode cX2_startWeights 21 = .ok (.getfield 24, 3) := by decide +kernel
theorem dX2_startWeights_24 : decode cX2_startWeights 24 = .ok (.iload_n 1, 1) := by decide +kernel
theorem dX2_startWeights_25 : decode cX2_startWeights 25 = .ok (.bipush 10, 2) := by decide +kernel
theorem dX2_startWeights_27 : decode cX2_startWeights 27 = .ok (.imul, 1) := by decide +kernel
theorem dX2_startWeights_28 : decode cX2_startWeights 28 = .ok (.iload_n 2, 1) := by decide +kernel
theorem dX2_startWeights_29 : decode cX2_startWeights 29 = .ok (.iadd, 1) := by decide +kernel
theorem dX2_startWeights_30 : decode cX2_startWeights 30 = .ok (.iload_n 1, 1) := by decide +kernel
theorem dX2_startWeights_31 : decode cX2_startWeights 31 = .ok (.iload_n 2, 1) := by decide +kernel
theorem dX2_startWeights_32 : decode cX2_startWeights 32 = .ok (.if_icmp .ne 7, 3) := by decide +kernel
theorem dX2_startWeights_35 : decode cX2_startWeights 35 = .ok (.iconst 0, 1) := by decide +kernel
theorem dX2_startWeights_36 : decode cX2_startWeights 36 = .ok (.goto 5, 3) := by decide +kernel
theorem dX2_startWeights_39 : decode cX2_startWeights 39 = .ok (.ldc 91, 2) := by decide +kernel
theorem dX2_startWeights_41 : decode cX2_startWeights 41 = .ok (.iastore, 1) := by decide +kernel
theorem dX2_startWeights_42 : decode cX2_startWeights 42 = .ok (.iinc 2 1, 3) := by decide +kernel
theorem dX2_startWeights_45 : decode cX2_startWeights 45 = .ok (.goto (-33), 3) := by decide +kernel
theorem dX2_startWeights_48 : decode cX2_startWeights 48 = .ok (.iinc 1 1, 3) := by decide +kernel
theorem dX2_startWeights_51 : decode cX2_startWeights 51 = .ok (.goto (-49), 3) := by decide +kernel
theorem dX2_startWeights_54 : decode cX2_startWeights 54 = .ok (.iconst 0, 1) := by decide +kernel
theorem dX2_startWeights_55 : decode cX2_startWeights 55 = .ok (.istore_n 1, 1) := by decide +kernel
theorem dX2_startWeights_56 : decode cX2_startWeights 56 = .ok (.iload_n 1, 1) := by decide +kernel
theorem dX2_startWeights_57 : decode cX2_startWeights 57 = .ok (.aload_n 0, 1) := by decide +kernel
theorem dX2_startWeights_58 : decode cX2_startWeights 58 = .ok (.getfield 44, 3) := by decide +kernel
theorem dX2_startWeights_61 : decode cX2_startWeights 61 = .ok (.if_icmp .ge 50, 3) := by decide +kernel
theorem dX2_startWeights_64 : decode cX2_startWeights 64 = .ok (.aload_n 0, 1) := by decide +kernel
theorem dX2_startWeights_65 : decode cX2_startWeights 65 = .ok (.getfield 9, 3) := by decide +kernel
theorem dX2_startWeights_68 : decode cX2_startWeights 68 = .ok (.iload_n 1, 1) := by decide +kernel
theorem dX2_startWeights_69 : decode cX2_startWeights 69 = .ok (.iaload, 1) := by decide +kernel
theorem dX2_startWeights_70 : decode cX2_startWeights 70 = .ok (.bipush 10, 2) := by decide +kernel
theorem dX2_startWeights_72 : decode cX2_startWeights 72 = .ok (.imul, 1) := by decide +kernel
theorem dX2_startWeights_73 : decode cX2_startWeights 73 = .ok (.aload_n 0, 1) := by decide +kernel
theorem dX2_startWeights_74 : decode cX2_startWeights 74 = .ok (.getfield 15, 3) := by decide +kernel
theorem dX2_startWeights_77 : decode cX2_startWeights 77 = .ok (.iload_n 1, 1) := by decide +kernel
theorem dX2_startWeights_78 : decode cX2_startWeights 78 = .ok (.iaload, 1) := by decide +kernel
theorem dX2_startWeights_79 : decode cX2_startWeights 79 = .ok (.iadd, 1) := by decide +kernel
theorem dX2_startWeights_80 : decode cX2_startWeights 80 = .ok (.istore_n 2, 1) := by decide +kernel
theorem dX2_startWeights_81 : decode cX2_startWeights 81 = .ok (.aload_n 0, 1) := by decide +kernel
theorem dX2_startWeights_82 : decode cX2_startWeights 82 = .ok (.getfield 24, 3) := by decide +kernel
theorem dX2_startWeights_85 : decode cX2_startWeights 85 = .ok (.iload_n 2, 1) := by decide +kernel
theorem dX2_startWeights_86 : decode cX2_startWeights 86 = .ok (.aload_n 0, 1) := by decide +kernel
theorem dX2_startWeights_87 : decode cX2_startWeights 87 = .ok (.getfield 24, 3) := by decide +kernel
theorem dX2_startWeights_90 : decode cX2_startWeights 90 = .ok (.iload_n 2, 1) := by decide +kernel
theorem dX2_startWeights_91 : decode cX2_startWeights 91 = .ok (.iaload, 1) := by decide +kernel
theorem dX2_startWeights_92 : decode cX2_startWeights 92 = .ok (.aload_n 0, 1) := by decide +kernel
theorem dX2_startWeights_93 : decode cX2_startWeights 93 = .ok (.getfield 18, 3) := by decide +kernel
theorem dX2_startWeights_96 : decode cX2_startWeights 96 = .ok (.iload_n 1, 1) := by decide +kernel
theorem dX2_startWeights_97 : decode cX2_startWeights 97 = .ok (.iaload, 1) := by decide +kernel
theorem dX2_startWeights_98 : decode cX2_startWeights 98 = .ok (.invokestatic 92, 3) := by decide +kernel
theorem dX2_startWeights_101 : decode cX2_startWeights 101 = .ok (.invokestatic 96, 3) := by decide +kernel
theorem dX2_startWeights_104 : decode cX2_startWeights 104 = .ok (.iastore, 1) := by decide +kernel
theorem dX2_startWeights_105 : decode cX2_startWeights 105 = .ok (.iinc 1 1, 3) := by decide +kernel
theorem dX2_startWeights_108 : decode cX2_startWeights 108 = .ok (.goto (-52), 3) := by decide +kernel
theorem dX2_startWeights_111 : decode cX2_startWeights 111 = .ok (.return_, 1) := by decide +kernel
theorem dX2_closeWeights_0 : decode cX2_closeWeights 0 = .ok (.iconst 0, 1) := by decide +kernel
theorem dX2_closeWeights_1 : decode cX2_closeWeights 1 = .ok (.istore_n 1, 1) := by decide +kernel
theorem dX2_closeWeights_2 : decode cX2_closeWeights 2 = .ok (.iload_n 1, 1) := by decide +kernel
theorem dX2_closeWeights_3 : decode cX2_closeWeights 3 = .ok (.aload_n 0, 1) := by decide +kernel
theorem dX2_closeWeights_4 : decode cX2_closeWeights 4 = .ok (.getfield 33, 3) := by decide +kernel
theorem dX2_closeWeights_7 : decode cX2_closeWeights 7 = .ok (.if_icmp .ge 99, 3) := by decide +kernel
theorem dX2_closeWeights_10 : decode cX2_closeWeights 10 = .ok (.iconst 0, 1) := by decide +kernel
theorem dX2_closeWeights_11 : decode cX2_closeWeights 11 = .ok (.istore_n 2, 1) := by decide +kernel
theorem dX2_closeWeights_12 : decode cX2_closeWeights 12 = .ok (.iload_n 2, 1) := by decide +kernel
theorem dX2_closeWeights_13 : decode cX2_closeWeights 13 = .ok (.aload_n 0, 1) := by decide +kernel
theorem dX2_closeWeights_14 : decode cX2_closeWeights 14 = .ok (.getfield 33, 3) := by decide +kernel
theorem dX2_closeWeights_17 : decode cX2_closeWeights 17 = .ok (.if_icmp .ge 83, 3) := by decide +kernel
theorem dX2_closeWeights_20 : decode cX2_closeWeights 20 = .ok (.aload_n 0, 1) := by decide +kernel
theorem dX2_closeWeights_21 : decode cX2_closeWeights 21 = .ok (.getfield 24, 3) := by decide +kernel
theorem dX2_closeWeights_24 : decode cX2_closeWeights 24 = .ok (.iload_n 2, 1) := by decide +kernel
theorem dX2_closeWeights_25 : decode cX2_closeWeights 25 = .ok (.bipush 10, 2) := by decide +kernel
theorem dX2_closeWeights_27 : decode cX2_closeWeights 27 = .ok (.imul, 1) := by decide +kernel
theorem dX2_closeWeights_28 : decode cX2_closeWeights 28 = .ok (.iload_n 1, 1) := by decide +kernel
theorem dX2_closeWeights_29 : decode cX2_closeWeights 29 = .ok (.iadd, 1) := by decide +kernel
theorem dX2_closeWeights_30 : decode cX2_closeWeights 30 = .ok (.iaload, 1) := by decide +kernel
theorem dX2_closeWeights_31 : decode cX2_closeWeights 31 = .ok (.istore_n 3, 1) := by decide +kernel
theorem dX2_closeWeights_32 : decode cX2_closeWeights 32 = .ok (.iconst 0, 1) := by decide +kernel
theorem dX2_closeWeights_33 : decode cX2_closeWeights 33 = .ok (.istore 4, 2) := by decide +kernel
theorem dX2_closeWeights_35 : decode cX2_closeWeights 35 = .ok (.iload 4, 2) := by decide +kernel
theorem dX2_closeWeights_37 : decode cX2_closeWeights 37 = .ok (.aload_n 0, 1) := by decide +kernel
theorem dX2_closeWeights_38 : decode cX2_closeWeights 38 = .ok (.getfield 33, 3) := by decide +kernel
theorem dX2_closeWeights_41 : decode cX2_closeWeights 41 = .ok (.if_icmp .ge 53, 3) := by decide +kernel
theorem dX2_closeWeights_44 : decode cX2_closeWeights 44 = .ok (.iload_n 3, 1) := by decide +kernel
theorem dX2_closeWeights_45 : decode cX2_closeWeights 45 = .ok (.aload_n 0, 1) := by decide +kernel
theorem dX2_closeWeights_46 : decode cX2_closeWeights 46 = .ok (.getfield 24, 3) := by decide +kernel
theorem dX2_closeWeights_49 : decode cX2_closeWeights 49 = .ok (.iload_n 1, 1) := by decide +kernel
theorem dX2_closeWeights_50 : decode cX2_closeWeights 50 = .ok (.bipush 10, 2) := by decide +kernel
theorem dX2_closeWeights_52 : decode cX2_closeWeights 52 = .ok (.imul, 1) := by decide +kernel
theorem dX2_closeWeights_53 : decode cX2_closeWeights 53 = .ok (.iload 4, 2) := by decide +kernel
theorem dX2_closeWeights_55 : decode cX2_closeWeights 55 = .ok (.iadd, 1) := by decide +kernel
theorem dX2_closeWeights_56 : decode cX2_closeWeights 56 = .ok (.iaload, 1) := by decide +kernel
theorem dX2_closeWeights_57 : decode cX2_closeWeights 57 = .ok (.iadd, 1) := by decide +kernel
theorem dX2_closeWeights_58 : decode cX2_closeWeights 58 = .ok (.istore 5, 2) := by decide +kernel
theorem dX2_closeWeights_60 : decode cX2_closeWeights 60 = .ok (.iload_n 2, 1) := by decide +kernel
theorem dX2_closeWeights_61 : decode cX2_closeWeights 61 = .ok (.bipush 10, 2) := by decide +kernel
theorem dX2_closeWeights_63 : decode cX2_closeWeights 63 = .ok (.imul, 1) := by decide +kernel
theorem dX2_closeWeights_64 : decode cX2_closeWeights 64 = .ok (.iload 4, 2) := by decide +kernel
theorem dX2_closeWeights_66 : decode cX2_closeWeights 66 = .ok (.iadd, 1) := by decide +kernel
theorem dX2_closeWeights_67 : decode cX2_closeWeights 67 = .ok (.istore 6, 2) := by decide +kernel
theorem dX2_closeWeights_69 : decode cX2_closeWeights 69 = .ok (.aload_n 0, 1) := by decide +kernel
theorem dX2_closeWeights_70 : decode cX2_closeWeights 70 = .ok (.getfield 24, 3) := by decide +kernel
theorem dX2_closeWeights_73 : decode cX2_closeWeights 73 = .ok (.iload 6, 2) := by decide +kernel
theorem dX2_closeWeights_75 : decode cX2_closeWeights 75 = .ok (.aload_n 0, 1) := by decide +kernel
theorem dX2_closeWeights_76 : decode cX2_closeWeights 76 = .ok (.getfield 24, 3) := by decide +kernel
theorem dX2_closeWeights_79 : decode cX2_closeWeights 79 = .ok (.iload 6, 2) := by decide +kernel
theorem dX2_closeWeights_81 : decode cX2_closeWeights 81 = .ok (.iaload, 1) := by decide +kernel
theorem dX2_closeWeights_82 : decode cX2_closeWeights 82 = .ok (.iload 5, 2) := by decide +kernel
theorem dX2_closeWeights_84 : decode cX2_closeWeights 84 = .ok (.invokestatic 96, 3) := by decide +kernel
theorem dX2_closeWeights_87 : decode cX2_closeWeights 87 = .ok (.iastore, 1) := by decide +kernel
theorem dX2_closeWeights_88 : decode cX2_closeWeights 88 = .ok (.iinc 4 1, 3) := by decide +kernel
theorem dX2_closeWeights_91 : decode cX2_closeWeights 91 = .ok (.goto (-56), 3) := by decide +kernel
theorem dX2_closeWeights_94 : decode cX2_closeWeights 94 = .ok (.iinc 2 1, 3) := by decide +kernel
theorem dX2_closeWeights_97 : decode cX2_closeWeights 97 = .ok (.goto (-85), 3) := by decide +kernel
theorem dX2_closeWeights_100 : decode cX2_closeWeights 100 = .ok (.iinc 1 1, 3) := by decide +kernel
theorem dX2_closeWeights_103 : decode cX2_closeWeights 103 = .ok (.goto (-101), 3) := by decide +kernel
theorem dX2_closeWeights_106 : decode cX2_closeWeights 106 = .ok (.return_, 1) := by decide +kernel
theorem dX2_copyBounds_0 : decode cX2_copyBounds 0 = .ok (.aload_n 1, 1) := by decide +kernel
theorem dX2_copyBounds_1 : decode cX2_copyBounds 1 = .ok (.getfield 24, 3) := by decide +kernel
theorem dX2_copyBounds_4 : decode cX2_copyBounds 4 = .ok (.iconst 0, 1) := by decide +kernel
theorem dX2_copyBounds_5 : decode cX2_copyBounds 5 = .ok (.aload_n 0, 1) := by decide +kernel
theorem dX2_copyBounds_6 : decode cX2_copyBounds 6 = .ok (.getfield 24, 3) := by decide +kernel
theorem dX2_copyBounds_9 : decode cX2_copyBounds 9 = .ok (.iconst 0, 1) := by decide +kernel
theorem dX2_copyBounds_10 : decode cX2_copyBounds 10 = .ok (.aload_n 0, 1) := by decide +kernel
theorem dX2_copyBounds_11 : decode cX2_copyBounds 11 = .ok (.getfield 24, 3) := by decide +kernel
theorem dX2_copyBounds_14 : decode cX2_copyBounds 14 = .ok (.arraylength, 1) := by decide +kernel
theorem dX2_copyBounds_15 : decode cX2_copyBounds 15 = .ok (.invokestatic 101, 3) := by decide +kernel
theorem dX2_copyBounds_18 : decode cX2_copyBounds 18 = .ok (.aload_n 0, 1) := by decide +kernel
theorem dX2_copyBounds_19 : decode cX2_copyBounds 19 = .ok (.aload_n 1, 1) := by decide +kernel
theorem dX2_copyBounds_20 : decode cX2_copyBounds 20 = .ok (.getfield 33, 3) := by decide +kernel
theorem dX2_copyBounds_23 : decode cX2_copyBounds 23 = .ok (.putfield 33, 3) := by decide +kernel
theorem dX2_copyBounds_26 : decode cX2_copyBounds 26 = .ok (.aload_n 0, 1) := by decide +kernel
theorem dX2_copyBounds_27 : decode cX2_copyBounds 27 = .ok (.iconst 0, 1) := by decide +kernel
theorem dX2_copyBounds_28 : decode cX2_copyBounds 28 = .ok (.putfield 44, 3) := by decide +kernel
theorem dX2_copyBounds_31 : decode cX2_copyBounds 31 = .ok (.return_, 1) := by decide +kernel
theorem dX2_addStep_0 : decode cX2_addStep 0 = .ok (.iconst 0, 1) := by decide +kernel
theorem dX2_addStep_1 : decode cX2_addStep 1 = .ok (.istore 4, 2) := by decide +kernel
theorem dX2_addStep_3 : decode cX2_addStep 3 = .ok (.iload 4, 2) := by decide +kernel
theorem dX2_addStep_5 : decode cX2_addStep 5 = .ok (.aload_n 0, 1) := by decide +kernel
theorem dX2_addStep_6 : decode cX2_addStep 6 = .ok (.getfield 33, 3) := by decide +kernel
theorem dX2_addStep_9 : decode cX2_addStep 9 = .ok (.if_icmp .ge 92, 3) := by decide +kernel
theorem dX2_addStep_12 : decode cX2_addStep 12 = .ok (.aload_n 0, 1) := by decide +kernel
theorem dX2_addStep_13 : decode cX2_addStep 13 = .ok (.getfield 24, 3) := by decide +kernel
theorem dX2_addStep_16 : decode cX2_addStep 16 = .ok (.iload 4, 2) := by decide +kernel
theorem dX2_addStep_18 : decode cX2_addStep 18 = .ok (.bipush 10, 2) := by decide +kernel
theorem dX2_addStep_20 : decode cX2_addStep 20 = .ok (.imul, 1) := by decide +kernel
theorem dX2_addStep_21 : decode cX2_addStep 21 = .ok (.iload_n 1, 1) := by decide +kernel
theorem dX2_addStep_22 : decode cX2_addStep 22 = .ok (.iadd, 1) := by decide +kernel
theorem dX2_addStep_23 : decode cX2_addStep 23 = .ok (.iaload, 1) := by decide +kernel
theorem dX2_addStep_24 : decode cX2_addStep 24 = .ok (.iload_n 3, 1) := by decide +kernel
theorem dX2_addStep_25 : decode cX2_addStep 25 = .ok (.invokestatic 92, 3) := by decide +kernel
theorem dX2_addStep_28 : decode cX2_addStep 28 = .ok (.iadd, 1) := by decide +kernel
theorem dX2_addStep_29 : decode cX2_addStep 29 = .ok (.istore 5, 2) := by decide +kernel
theorem dX2_addStep_31 : decode cX2_addStep 31 = .ok (.iconst 0, 1) := by decide +kernel
theorem dX2_addStep_32 : decode cX2_addStep 32 = .ok (.istore 6, 2) := by decide +kernel
theorem dX2_addStep_34 : decode cX2_addStep 34 = .ok (.iload 6, 2) := by decide +kernel
theorem dX2_addStep_36 : decode cX2_addStep 36 = .ok (.aload_n 0, 1) := by decide +kernel
theorem dX2_addStep_37 : decode cX2_addStep 37 = .ok (.getfield 33, 3) := by decide +kernel
theorem dX2_addStep_40 : decode cX2_addStep 40 = .ok (.if_icmp .ge 55, 3) := by decide +kernel
theorem dX2_addStep_43 : decode cX2_addStep 43 = .ok (.iload 5, 2) := by decide +kernel
theorem dX2_addStep_45 : decode cX2_addStep 45 = .ok (.aload_n 0, 1) := by decide +kernel
theorem dX2_addStep_46 : decode cX2_addStep 46 = .ok (.getfield 24, 3) := by decide +kernel
theorem dX2_addStep_49 : decode cX2_addStep 49 = .ok (.iload_n 2, 1) := by decide +kernel
theorem dX2_addStep_50 : decode cX2_addStep 50 = .ok (.bipush 10, 2) := by decide +kernel
theorem dX2_addStep_52 : decode cX2_addStep 52 = .ok (.imul, 1) := by decide +kernel
theorem dX2_addStep_53 : decode cX2_addStep 53 = .ok (.iload 6, 2) := by decide +kernel
theorem dX2_addStep_55 : decode cX2_addStep 55 = .ok (.iadd, 1) := by decide +kernel
theorem dX2_addStep_56 : decode cX2_addStep 56 = .ok (.iaload, 1) := by decide +kernel
theorem dX2_addStep_57 : decode cX2_addStep 57 = .ok (.iadd, 1) := by decide +kernel
theorem dX2_addStep_58 : decode cX2_addStep 58 = .ok (.istore 7, 2) := by decide +kernel
theorem dX2_addStep_60 : decode cX2_addStep 60 = .ok (.iload 4, 2) := by decide +kernel
theorem dX2_addStep_62 : decode cX2_addStep 62 = .ok (.bipush 10, 2) := by decide +kernel
theorem dX2_addStep_64 : decode cX2_addStep 64 = .ok (.imul, 1) := by decide +kernel
theorem dX2_addStep_65 : decode cX2_addStep 65 = .ok (.iload 6, 2) := by decide +kernel
theorem dX2_addStep_67 : decode cX2_addStep 67 = .ok (.iadd, 1) := by decide +kernel
theorem dX2_addStep_68 : decode cX2_addStep 68 = .ok (.istore 8, 2) := by decide +kernel
theorem dX2_addStep_70 : decode cX2_addStep 70 = .ok (.aload_n 0, 1) := by decide +kernel
theorem dX2_addStep_71 : decode cX2_addStep 71 = .ok (.getfield 24, 3) := by decide +kernel
theorem dX2_addStep_74 : decode cX2_addStep 74 = .ok (.iload 8, 2) := by decide +kernel
theorem dX2_addStep_76 : decode cX2_addStep 76 = .ok (.aload_n 0, 1) := by decide +kernel
theorem dX2_addStep_77 : decode cX2_addStep 77 = .ok (.getfield 24, 3) := by decide +kernel
theorem dX2_addStep_80 : decode cX2_addStep 80 = .ok (.iload 8, 2) := by decide +kernel
theorem dX2_addStep_82 : decode cX2_addStep 82 = .ok (.iaload, 1) := by decide +kernel
theorem dX2_addStep_83 : decode cX2_addStep 83 = .ok (.iload 7, 2) := by decide +kernel
theorem dX2_addStep_85 : decode cX2_addStep 85 = .ok (.invokestatic 96, 3) := by decide +kernel
theorem dX2_addStep_88 : decode cX2_addStep 88 = .ok (.iastore, 1) := by decide +kernel
theorem dX2_addStep_89 : decode cX2_addStep 89 = .ok (.iinc 6 1, 3) := by decide +kernel
theorem dX2_addStep_92 : decode cX2_addStep 92 = .ok (.goto (-58), 3) := by decide +kernel
theorem dX2_addStep_95 : decode cX2_addStep 95 = .ok (.iinc 4 1, 3) := by decide +kernel
theorem dX2_addStep_98 : decode cX2_addStep 98 = .ok (.goto (-95), 3) := by decide +kernel
theorem dX2_addStep_101 : decode cX2_addStep 101 = .ok (.return_, 1) := by decide +kernel
theorem dX2_addGapStep_0 : decode cX2_addGapStep 0 = .ok (.aload_n 0, 1) := by decide +kernel
theorem dX2_addGapStep_1 : decode cX2_addGapStep 1 = .ok (.iload_n 1, 1) := by decide +kernel
theorem dX2_addGapStep_2 : decode cX2_addGapStep 2 = .ok (.iload_n 2, 1) := by decide +kernel
theorem dX2_addGapStep_3 : decode cX2_addGapStep 3 = .ok (.iload_n 3, 1) := by decide +kernel
theorem dX2_addGapStep_4 : decode cX2_addGapStep 4 = .ok (.invokestatic 63, 3) := by decide +kernel
theorem dX2_addGapStep_7 : decode cX2_addGapStep 7 = .ok (.iload_n 1, 1) := by decide +kernel
theorem dX2_addGapStep_8 : decode cX2_addGapStep 8 = .ok (.iload_n 2, 1) := by decide +kernel
theorem dX2_addGapStep_9 : decode cX2_addGapStep 9 = .ok (.iload_n 3, 1) := by decide +kernel
theorem dX2_addGapStep_10 : decode cX2_addGapStep 10 = .ok (.invokestatic 67, 3) := by decide +kernel
theorem dX2_addGapStep_13 : decode cX2_addGapStep 13 = .ok (.iload_n 3, 1) := by decide +kernel
theorem dX2_addGapStep_14 : decode cX2_addGapStep 14 = .ok (.iload 4, 2) := by decide +kernel
theorem dX2_addGapStep_16 : decode cX2_addGapStep 16 = .ok (.invokestatic 73, 3) := by decide +kernel
theorem dX2_addGapStep_19 : decode cX2_addGapStep 19 = .ok (.invokevirtual 107, 3) := by decide +kernel
theorem dX2_addGapStep_22 : decode cX2_addGapStep 22 = .ok (.return_, 1) := by decide +kernel
theorem dX2_addPin_0 : decode cX2_addPin 0 = .ok (.aload_n 0, 1) := by decide +kernel
theorem dX2_addPin_1 : decode cX2_addPin 1 = .ok (.iconst 0, 1) := by decide +kernel
theorem dX2_addPin_2 : decode cX2_addPin 2 = .ok (.iload_n 1, 1) := by decide +kernel
theorem dX2_addPin_3 : decode cX2_addPin 3 = .ok (.iload_n 2, 1) := by decide +kernel
theorem dX2_addPin_4 : decode cX2_addPin 4 = .ok (.invokevirtual 107, 3) := by decide +kernel
theorem dX2_addPin_7 : decode cX2_addPin 7 = .ok (.aload_n 0, 1) := by decide +kernel
theorem dX2_addPin_8 : decode cX2_addPin 8 = .ok (.iload_n 1, 1) := by decide +kernel
theorem dX2_addPin_9 : decode cX2_addPin 9 = .ok (.iconst 0, 1) := by decide +kernel
theorem dX2_addPin_10 : decode cX2_addPin 10 = .ok (.iload_n 2, 1) := by decide +kernel
theorem dX2_addPin_11 : decode cX2_addPin 11 = .ok (.ineg, 1) := by decide +kernel
theorem dX2_addPin_12 : decode cX2_addPin 12 = .ok (.invokevirtual 107, 3) := by decide +kernel
theorem dX2_addPin_15 : decode cX2_addPin 15 = .ok (.return_, 1) := by decide +kernel
theorem dX2_weightOf_0 : decode cX2_weightOf 0 = .ok (.iload_n 0, 1) := by decide +kernel
theorem dX2_weightOf_1 : decode cX2_weightOf 1 = .ok (.bipush 64, 2) := by decide +kernel
theorem dX2_weightOf_3 : decode cX2_weightOf 3 = .ok (.imul, 1) := by decide +kernel
theorem dX2_weightOf_4 : decode cX2_weightOf 4 = .ok (.iconst 1, 1) := by decide +kernel
theorem dX2_weightOf_5 : decode cX2_weightOf 5 = .ok (.iadd, 1) := by decide +kernel
theorem dX2_weightOf_6 : decode cX2_weightOf 6 = .ok (.ireturn, 1) := by decide +kernel
theorem dX2_between_0 : decode cX2_between 0 = .ok (.aload_n 0, 1) := by decide +kernel
theorem dX2_between_1 : decode cX2_between 1 = .ok (.getfield 24, 3) := by decide +kernel
theorem dX2_between_4 : decode cX2_between 4 = .ok (.iload_n 1, 1) := by decide +kernel
theorem dX2_between_5 : decode cX2_between 5 = .ok (.bipush 10, 2) := by decide +kernel
theorem dX2_between_7 : decode cX2_between 7 = .ok (.imul, 1) := by decide +kernel
theorem dX2_between_8 : decode cX2_between 8 = .ok (.iload_n 2, 1) := by decide +kernel
theorem dX2_between_9 : decode cX2_between 9 = .ok (.iadd, 1) := by decide +kernel
theorem dX2_between_10 : decode cX2_between 10 = .ok (.iaload, 1) := by decide +kernel
theorem dX2_between_11 : decode cX2_between 11 = .ok (.bipush 64, 2) := by decide +kernel
theorem dX2_between_13 : decode cX2_between 13 = .ok (.invokestatic 111, 3) := by decide +kernel
theorem dX2_between_16 : decode cX2_between 16 = .ok (.ireturn, 1) := by decide +kernel
theorem dX2_stepsBetween_0 : decode cX2_stepsBetween 0 = .ok (.aload_n 0, 1) := by decide +kernel
theorem dX2_stepsBetween_1 : decode cX2_stepsBetween 1 = .ok (.getfield 24, 3) := by decide +kernel
theorem dX2_stepsBetween_4 : decode cX2_stepsBetween 4 = .ok (.iload_n 1, 1) := by decide +kernel
theorem dX2_stepsBetween_5 : decode cX2_stepsBetween 5 = .ok (.bipush 10, 2) := by decide +kernel
theorem dX2_stepsBetween_7 : decode cX2_stepsBetween 7 = .ok (.imul, 1) := by decide +kernel
theorem dX2_stepsBetween_8 : decode cX2_stepsBetween 8 = .ok (.iload_n 2, 1) := by decide +kernel
theorem dX2_stepsBetween_9 : decode cX2_stepsBetween 9 = .ok (.iadd, 1) := by decide +kernel
theorem dX2_stepsBetween_10 : decode cX2_stepsBetween 10 = .ok (.iaload, 1) := by decide +kernel
theorem dX2_stepsBetween_11 : decode cX2_stepsBetween 11 = .ok (.bipush 64, 2) := by decide +kernel
theorem dX2_stepsBetween_13 : decode cX2_stepsBetween 13 = .ok (.invokestatic 114, 3) := by decide +kernel
theorem dX2_stepsBetween_16 : decode cX2_stepsBetween 16 = .ok (.ireturn, 1) := by decide +kernel
theorem dX2_earliest_0 : decode cX2_earliest 0 = .ok (.aload_n 0, 1) := by decide +kernel
theorem dX2_earliest_1 : decode cX2_earliest 1 = .ok (.iload_n 1, 1) := by decide +kernel
theorem dX2_earliest_2 : decode cX2_earliest 2 = .ok (.iconst 0, 1) := by decide +kernel
theorem dX2_earliest_3 : decode cX2_earliest 3 = .ok (.invokevirtual 117, 3) := by decide +kernel
theorem dX2_earliest_6 : decode cX2_earliest 6 = .ok (.ineg, 1) := by decide +kernel
theorem dX2_earliest_7 : decode cX2_earliest 7 = .ok (.ireturn, 1) := by decide +kernel
theorem dX2_latest_0 : decode cX2_latest 0 = .ok (.aload_n 0, 1) := by decide +kernel
theorem dX2_latest_1 : decode cX2_latest 1 = .ok (.iconst 0, 1) := by decide +kernel
theorem dX2_latest_2 : decode cX2_latest 2 = .ok (.iload_n 1, 1) := by decide +kernel
theorem dX2_latest_3 : decode cX2_latest 3 = .ok (.invokevirtual 117, 3) := by decide +kernel
theorem dX2_latest_6 : decode cX2_latest 6 = .ok (.ireturn, 1) := by decide +kernel
theorem dX2_possibleTimes_0 : decode cX2_possibleTimes 0 = .ok (.aload_n 0, 1) := by decide +kernel
theorem dX2_possibleTimes_1 : decode cX2_possibleTimes 1 = .ok (.iload_n 1, 1) := by decide +kernel
theorem dX2_possibleTimes_2 : decode cX2_possibleTimes 2 = .ok (.invokevirtual 120, 3) := by decide +kernel
theorem dX2_possibleTimes_5 : decode cX2_possibleTimes 5 = .ok (.aload_n 0, 1) := by decide +kernel
theorem dX2_possibleTimes_6 : decode cX2_possibleTimes 6 = .ok (.iload_n 1, 1) := by decide +kernel
theorem dX2_possibleTimes_7 : decode cX2_possibleTimes 7 = .ok (.invokevirtual 123, 3) := by decide +kernel
theorem dX2_possibleTimes_10 : decode cX2_possibleTimes 10 = .ok (.isub, 1) := by decide +kernel
theorem dX2_possibleTimes_11 : decode cX2_possibleTimes 11 = .ok (.iconst 1, 1) := by decide +kernel
theorem dX2_possibleTimes_12 : decode cX2_possibleTimes 12 = .ok (.iadd, 1) := by decide +kernel
theorem dX2_possibleTimes_13 : decode cX2_possibleTimes 13 = .ok (.ireturn, 1) := by decide +kernel
theorem dX2_allows_0 : decode cX2_allows 0 = .ok (.iload_n 2, 1) := by decide +kernel
theorem dX2_allows_1 : decode cX2_allows 1 = .ok (.aload_n 0, 1) := by decide +kernel
theorem dX2_allows_2 : decode cX2_allows 2 = .ok (.iload_n 1, 1) := by decide +kernel
theorem dX2_allows_3 : decode cX2_allows 3 = .ok (.invokevirtual 123, 3) := by decide +kernel
theorem dX2_allows_6 : decode cX2_allows 6 = .ok (.if_icmp .lt 16, 3) := by decide +kernel
theorem dX2_allows_9 : decode cX2_allows 9 = .ok (.iload_n 2, 1) := by decide +kernel
theorem dX2_allows_10 : decode cX2_allows 10 = .ok (.aload_n 0, 1) := by decide +kernel
theorem dX2_allows_11 : decode cX2_allows 11 = .ok (.iload_n 1, 1) := by decide +kernel
theorem dX2_allows_12 : decode cX2_allows 12 = .ok (.invokevirtual 120, 3) := by decide +kernel
theorem dX2_allows_15 : decode cX2_allows 15 = .ok (.if_icmp .gt 7, 3) := by decide +kernel
theorem dX2_allows_18 : decode cX2_allows 18 = .ok (.iconst 1, 1) := by decide +kernel
theorem dX2_allows_19 : decode cX2_allows 19 = .ok (.goto 4, 3) := by decide +kernel
theorem dX2_allows_22 : decode cX2_allows 22 = .ok (.iconst 0, 1) := by decide +kernel
theorem dX2_allows_23 : decode cX2_allows 23 = .ok (.ireturn, 1) := by decide +kernel
theorem dX2_leastRing_0 : decode cX2_leastRing 0 = .ok (.aload_n 0, 1) := by decide +kernel
theorem dX2_leastRing_1 : decode cX2_leastRing 1 = .ok (.iload_n 1, 1) := by decide +kernel
theorem dX2_leastRing_2 : decode cX2_leastRing 2 = .ok (.iload_n 2, 1) := by decide +kernel
theorem dX2_leastRing_3 : decode cX2_leastRing 3 = .ok (.iload_n 3, 1) := by decide +kernel
theorem dX2_leastRing_4 : decode cX2_leastRing 4 = .ok (.invokestatic 67, 3) := by decide +kernel
theorem dX2_leastRing_7 : decode cX2_leastRing 7 = .ok (.iload_n 1, 1) := by decide +kernel
theorem dX2_leastRing_8 : decode cX2_leastRing 8 = .ok (.iload_n 2, 1) := by decide +kernel
theorem dX2_leastRing_9 : decode cX2_leastRing 9 = .ok (.iload_n 3, 1) := by decide +kernel
theorem dX2_leastRing_10 : decode cX2_leastRing 10 = .ok (.invokestatic 63, 3) := by decide +kernel
theorem dX2_leastRing_13 : decode cX2_leastRing 13 = .ok (.invokevirtual 117, 3) := by decide +kernel
theorem dX2_leastRing_16 : decode cX2_leastRing 16 = .ok (.istore 5, 2) := by decide +kernel
theorem dX2_leastRing_18 : decode cX2_leastRing 18 = .ok (.iload_n 3, 1) := by decide +kernel
theorem dX2_leastRing_19 : decode cX2_leastRing 19 = .ok (.iload 4, 2) := by decide +kernel
theorem dX2_leastRing_21 : decode cX2_leastRing 21 = .ok (.invokestatic 73, 3) := by decide +kernel
theorem dX2_leastRing_24 : decode cX2_leastRing 24 = .ok (.iload 5, 2) := by decide +kernel
theorem dX2_leastRing_26 : decode cX2_leastRing 26 = .ok (.iadd, 1) := by decide +kernel
theorem dX2_leastRing_27 : decode cX2_leastRing 27 = .ok (.ireturn, 1) := by decide +kernel
theorem dX2_oneStepDenies_0 : decode cX2_oneStepDenies 0 = .ok (.iload_n 1, 1) := by decide +kernel
theorem dX2_oneStepDenies_1 : decode cX2_oneStepDenies 1 = .ok (.iload_n 2, 1) := by decide +kernel
theorem dX2_oneStepDenies_2 : decode cX2_oneStepDenies 2 = .ok (.iload_n 3, 1) := by decide +kernel
theorem dX2_oneStepDenies_3 : decode cX2_oneStepDenies 3 = .ok (.invokestatic 63, 3) := by decide +kernel
theorem dX2_oneStepDenies_6 : decode cX2_oneStepDenies 6 = .ok (.istore 5, 2) := by decide +kernel
theorem dX2_oneStepDenies_8 : decode cX2_oneStepDenies 8 = .ok (.iload_n 1, 1) := by decide +kernel
theorem dX2_oneStepDenies_9 : decode cX2_oneStepDenies 9 = .ok (.iload_n 2, 1) := by decide +kernel
theorem dX2_oneStepDenies_10 : decode cX2_oneStepDenies 10 = .ok (.iload_n 3, 1) := by decide +kernel
theorem dX2_oneStepDenies_11 : decode cX2_oneStepDenies 11 = .ok (.invokestatic 67, 3) := by decide +kernel
theorem dX2_oneStepDenies_14 : decode cX2_oneStepDenies 14 = .ok (.istore 6, 2) := by decide +kernel
theorem dX2_oneStepDenies_16 : decode cX2_oneStepDenies 16 = .ok (.iconst 0, 1) := by decide +kernel
theorem dX2_oneStepDenies_17 : decode cX2_oneStepDenies 17 = .ok (.istore 7, 2) := by decide +kernel
theorem dX2_oneStepDenies_19 : decode cX2_oneStepDenies 19 = .ok (.iload 7, 2) := by decide +kernel
theorem dX2_oneStepDenies_21 : decode cX2_oneStepDenies 21 = .ok (.aload_n 0, 1) := by decide +kernel
theorem dX2_oneStepDenies_22 : decode cX2_oneStepDenies 22 = .ok (.getfield 44, 3) := by decide +kernel
theorem dX2_oneStepDenies_25 : decode cX2_oneStepDenies 25 = .ok (.if_icmp .ge 52, 3) := by decide +kernel
theorem dX2_oneStepDenies_28 : decode cX2_oneStepDenies 28 = .ok (.aload_n 0, 1) := by decide +kernel
theorem dX2_oneStepDenies_29 : decode cX2_oneStepDenies 29 = .ok (.getfield 9, 3) := by decide +kernel
theorem dX2_oneStepDenies_32 : decode cX2_oneStepDenies 32 = .ok (.iload 7, 2) := by decide +kernel
theorem dX2_oneStepDenies_34 : decode cX2_oneStepDenies 34 = .ok (.iaload, 1) := by decide +kernel
theorem dX2_oneStepDenies_35 : decode cX2_oneStepDenies 35 = .ok (.iload 6, 2) := by decide +kernel
theorem dX2_oneStepDenies_37 : decode cX2_oneStepDenies 37 = .ok (.if_icmp .ne 34, 3) := by decide +kernel
theorem dX2_oneStepDenies_40 : decode cX2_oneStepDenies 40 = .ok (.aload_n 0, 1) := by decide +kernel
theorem dX2_oneStepDenies_41 : decode cX2_oneStepDenies 41 = .ok (.getfield 15, 3) := by decide +kernel
theorem dX2_oneStepDenies_44 : decode cX2_oneStepDenies 44 = .ok (.iload 7, 2) := by decide +kernel
theorem dX2_oneStepDenies_46 : decode cX2_oneStepDenies 46 = .ok (.iaload, 1) := by decide +kernel
theorem dX2_oneStepDenies_47 : decode cX2_oneStepDenies 47 = .ok (.iload 5, 2) := by decide +kernel
theorem dX2_oneStepDenies_49 : decode cX2_oneStepDenies 49 = .ok (.if_icmp .ne 22, 3) := by decide +kernel
theorem dX2_oneStepDenies_52 : decode cX2_oneStepDenies 52 = .ok (.aload_n 0, 1) := by decide +kernel
theorem dX2_oneStepDenies_53 : decode cX2_oneStepDenies 53 = .ok (.getfield 18, 3) := by decide +kernel
theorem dX2_oneStepDenies_56 : decode cX2_oneStepDenies 56 = .ok (.iload 7, 2) := by decide +kernel
theorem dX2_oneStepDenies_58 : decode cX2_oneStepDenies 58 = .ok (.iaload, 1) := by decide +kernel
theorem dX2_oneStepDenies_59 : decode cX2_oneStepDenies 59 = .ok (.iload_n 3, 1) := by decide +kernel
theorem dX2_oneStepDenies_60 : decode cX2_oneStepDenies 60 = .ok (.iload 4, 2) := by decide +kernel
theorem dX2_oneStepDenies_62 : decode cX2_oneStepDenies 62 = .ok (.invokestatic 73, 3) := by decide +kernel
theorem dX2_oneStepDenies_65 : decode cX2_oneStepDenies 65 = .ok (.iadd, 1) := by decide +kernel
theorem dX2_oneStepDenies_66 : decode cX2_oneStepDenies 66 = .ok (.ifCond .ge 5, 3) := by decide +kernel
theorem dX2_oneStepDenies_69 : decode cX2_oneStepDenies 69 = .ok (.iconst 1, 1) := by decide +kernel
theorem dX2_oneStepDenies_70 : decode cX2_oneStepDenies 70 = .ok (.ireturn, 1) := by decide +kernel
theorem dX2_oneStepDenies_71 : decode cX2_oneStepDenies 71 = .ok (.iinc 7 1, 3) := by decide +kernel
theorem dX2_oneStepDenies_74 : decode cX2_oneStepDenies 74 = .ok (.goto (-55), 3) := by decide +kernel
theorem dX2_oneStepDenies_77 : decode cX2_oneStepDenies 77 = .ok (.iconst 0, 1) := by decide +kernel
theorem dX2_oneStepDenies_78 : decode cX2_oneStepDenies 78 = .ok (.ireturn, 1) := by decide +kernel
theorem dX2_stepOfWay_0 : decode cX2_stepOfWay 0 = .ok (.iload_n 1, 1) := by decide +kernel
theorem dX2_stepOfWay_1 : decode cX2_stepOfWay 1 = .ok (.istore 4, 2) := by decide +kernel
theorem dX2_stepOfWay_3 : decode cX2_stepOfWay 3 = .ok (.iconst 0, 1) := by decide +kernel
theorem dX2_stepOfWay_4 : decode cX2_stepOfWay 4 = .ok (.istore 5, 2) := by decide +kernel
theorem dX2_stepOfWay_6 : decode cX2_stepOfWay 6 = .ok (.iload 5, 2) := by decide +kernel
theorem dX2_stepOfWay_8 : decode cX2_stepOfWay 8 = .ok (.bipush 10, 2) := by decide +kernel
theorem dX2_stepOfWay_10 : decode cX2_stepOfWay 10 = .ok (.if_icmp .ge 56, 3) := by decide +kernel
theorem dX2_stepOfWay_13 : decode cX2_stepOfWay 13 = .ok (.iload 4, 2) := by decide +kernel
theorem dX2_stepOfWay_15 : decode cX2_stepOfWay 15 = .ok (.iload_n 2, 1) := by decide +kernel
theorem dX2_stepOfWay_16 : decode cX2_stepOfWay 16 = .ok (.if_icmp .eq 50, 3) := by decide +kernel
theorem dX2_stepOfWay_19 : decode cX2_stepOfWay 19 = .ok (.aload_n 0, 1) := by decide +kernel
theorem dX2_stepOfWay_20 : decode cX2_stepOfWay 20 = .ok (.iload 4, 2) := by decide +kernel
theorem dX2_stepOfWay_22 : decode cX2_stepOfWay 22 = .ok (.iload_n 2, 1) := by decide +kernel
theorem dX2_stepOfWay_23 : decode cX2_stepOfWay 23 = .ok (.invokevirtual 126, 3) := by decide +kernel
theorem dX2_stepOfWay_26 : decode cX2_stepOfWay 26 = .ok (.istore 6, 2) := by decide +kernel
theorem dX2_stepOfWay_28 : decode cX2_stepOfWay 28 = .ok (.iload 6, 2) := by decide +kernel
theorem dX2_stepOfWay_30 : decode cX2_stepOfWay 30 = .ok (.iconst (-1), 1) := by decide +kernel
theorem dX2_stepOfWay_31 : decode cX2_stepOfWay 31 = .ok (.if_icmp .ne 6, 3) := by decide +kernel
theorem dX2_stepOfWay_34 : decode cX2_stepOfWay 34 = .ok (.bipush (-2), 2) := by decide +kernel
theorem dX2_stepOfWay_36 : decode cX2_stepOfWay 36 = .ok (.ireturn, 1) := by decide +kernel
theorem dX2_stepOfWay_37 : decode cX2_stepOfWay 37 = .ok (.iload 5, 2) := by decide +kernel
theorem dX2_stepOfWay_39 : decode cX2_stepOfWay 39 = .ok (.iload_n 3, 1) := by decide +kernel
theorem dX2_stepOfWay_40 : decode cX2_stepOfWay 40 = .ok (.if_icmp .ne 11, 3) := by decide +kernel
theorem dX2_stepOfWay_43 : decode cX2_stepOfWay 43 = .ok (.aload_n 0, 1) := by decide +kernel
theorem dX2_stepOfWay_44 : decode cX2_stepOfWay 44 = .ok (.getfield 21, 3) := by decide +kernel
theorem dX2_stepOfWay_47 : decode cX2_stepOfWay 47 = .ok (.iload 6, 2) := by decide +kernel
theorem dX2_stepOfWay_49 : decode cX2_stepOfWay 49 = .ok (.iaload, 1) := by decide +kernel
theorem dX2_stepOfWay_50 : decode cX2_stepOfWay 50 = .ok (.ireturn, 1) := by decide +kernel
theorem dX2_stepOfWay_51 : decode cX2_stepOfWay 51 = .ok (.aload_n 0, 1) := by decide +kernel
theorem dX2_stepOfWay_52 : decode cX2_stepOfWay 52 = .ok (.getfield 15, 3) := by decide +kernel
theorem dX2_stepOfWay_55 : decode cX2_stepOfWay 55 = .ok (.iload 6, 2) := by decide +kernel
theorem dX2_stepOfWay_57 : decode cX2_stepOfWay 57 = .ok (.iaload, 1) := by decide +kernel
theorem dX2_stepOfWay_58 : decode cX2_stepOfWay 58 = .ok (.istore 4, 2) := by decide +kernel
theorem dX2_stepOfWay_60 : decode cX2_stepOfWay 60 = .ok (.iinc 5 1, 3) := by decide +kernel
theorem dX2_stepOfWay_63 : decode cX2_stepOfWay 63 = .ok (.goto (-57), 3) := by decide +kernel
theorem dX2_stepOfWay_66 : decode cX2_stepOfWay 66 = .ok (.bipush (-2), 2) := by decide +kernel
theorem dX2_stepOfWay_68 : decode cX2_stepOfWay 68 = .ok (.ireturn, 1) := by decide +kernel
theorem dX2_firstStep_0 : decode cX2_firstStep 0 = .ok (.aload_n 0, 1) := by decide +kernel
theorem dX2_firstStep_1 : decode cX2_firstStep 1 = .ok (.getfield 24, 3) := by decide +kernel
theorem dX2_firstStep_4 : decode cX2_firstStep 4 = .ok (.iload_n 1, 1) := by decide +kernel
theorem dX2_firstStep_5 : decode cX2_firstStep 5 = .ok (.bipush 10, 2) := by decide +kernel
theorem dX2_firstStep_7 : decode cX2_firstStep 7 = .ok (.imul, 1) := by decide +kernel
theorem dX2_firstStep_8 : decode cX2_firstStep 8 = .ok (.iload_n 2, 1) := by decide +kernel
theorem dX2_firstStep_9 : decode cX2_firstStep 9 = .ok (.iadd, 1) := by decide +kernel
theorem dX2_firstStep_10 : decode cX2_firstStep 10 = .ok (.iaload, 1) := by decide +kernel
theorem dX2_firstStep_11 : decode cX2_firstStep 11 = .ok (.istore_n 3, 1) := by decide +kernel
theorem dX2_firstStep_12 : decode cX2_firstStep 12 = .ok (.iconst 0, 1) := by decide +kernel
theorem dX2_firstStep_13 : decode cX2_firstStep 13 = .ok (.istore 4, 2) := by decide +kernel
theorem dX2_firstStep_15 : decode cX2_firstStep 15 = .ok (.iload 4, 2) := by decide +kernel
theorem dX2_firstStep_17 : decode cX2_firstStep 17 = .ok (.aload_n 0, 1) := by decide +kernel
theorem dX2_firstStep_18 : decode cX2_firstStep 18 = .ok (.getfield 44, 3) := by decide +kernel
theorem dX2_firstStep_21 : decode cX2_firstStep 21 = .ok (.if_icmp .ge 59, 3) := by decide +kernel
theorem dX2_firstStep_24 : decode cX2_firstStep 24 = .ok (.aload_n 0, 1) := by decide +kernel
theorem dX2_firstStep_25 : decode cX2_firstStep 25 = .ok (.getfield 24, 3) := by decide +kernel
theorem dX2_firstStep_28 : decode cX2_firstStep 28 = .ok (.aload_n 0, 1) := by decide +kernel
theorem dX2_firstStep_29 : decode cX2_firstStep 29 = .ok (.getfield 15, 3) := by decide +kernel
theorem dX2_firstStep_32 : decode cX2_firstStep 32 = .ok (.iload 4, 2) := by decide +kernel
theorem dX2_firstStep_34 : decode cX2_firstStep 34 = .ok (.iaload, 1) := by decide +kernel
theorem dX2_firstStep_35 : decode cX2_firstStep 35 = .ok (.bipush 10, 2) := by decide +kernel
theorem dX2_firstStep_37 : decode cX2_firstStep 37 = .ok (.imul, 1) := by decide +kernel
theorem dX2_firstStep_38 : decode cX2_firstStep 38 = .ok (.iload_n 2, 1) := by decide +kernel
theorem dX2_firstStep_39 : decode cX2_firstStep 39 = .ok (.iadd, 1) := by decide +kernel
theorem dX2_firstStep_40 : decode cX2_firstStep 40 = .ok (.iaload, 1) := by decide +kernel
theorem dX2_firstStep_41 : decode cX2_firstStep 41 = .ok (.istore 5, 2) := by decide +kernel
theorem dX2_firstStep_43 : decode cX2_firstStep 43 = .ok (.aload_n 0, 1) := by decide +kernel
theorem dX2_firstStep_44 : decode cX2_firstStep 44 = .ok (.getfield 9, 3) := by decide +kernel
theorem dX2_firstStep_47 : decode cX2_firstStep 47 = .ok (.iload 4, 2) := by decide +kernel
theorem dX2_firstStep_49 : decode cX2_firstStep 49 = .ok (.iaload, 1) := by decide +kernel
theorem dX2_firstStep_50 : decode cX2_firstStep 50 = .ok (.iload_n 1, 1) := by decide +kernel
theorem dX2_firstStep_51 : decode cX2_firstStep 51 = .ok (.if_icmp .ne 23, 3) := by decide +kernel
theorem dX2_firstStep_54 : decode cX2_firstStep 54 = .ok (.aload_n 0, 1) := by decide +kernel
theorem dX2_firstStep_55 : decode cX2_firstStep 55 = .ok (.getfield 18, 3) := by decide +kernel
theorem dX2_firstStep_58 : decode cX2_firstStep 58 = .ok (.iload 4, 2) := by decide +kernel
theorem dX2_firstStep_60 : decode cX2_firstStep 60 = .ok (.iaload, 1) := by decide +kernel
theorem dX2_firstStep_61 : decode cX2_firstStep 61 = .ok (.invokestatic 92, 3) := by decide +kernel
theorem dX2_firstStep_64 : decode cX2_firstStep 64 = .ok (.iload 5, 2) := by decide +kernel
theorem dX2_firstStep_66 : decode cX2_firstStep 66 = .ok (.iadd, 1) := by decide +kernel
theorem dX2_firstStep_67 : decode cX2_firstStep 67 = .ok (.iload_n 3, 1) := by decide +kernel
theorem dX2_firstStep_68 : decode cX2_firstStep 68 = .ok (.if_icmp .ne 6, 3) := by decide +kernel
theorem dX2_firstStep_71 : decode cX2_firstStep 71 = .ok (.iload 4, 2) := by decide +kernel
theorem dX2_firstStep_73 : decode cX2_firstStep 73 = .ok (.ireturn, 1) := by decide +kernel
theorem dX2_firstStep_74 : decode cX2_firstStep 74 = .ok (.iinc 4 1, 3) := by decide +kernel
theorem dX2_firstStep_77 : decode cX2_firstStep 77 = .ok (.goto (-62), 3) := by decide +kernel
theorem dX2_firstStep_80 : decode cX2_firstStep 80 = .ok (.iconst (-1), 1) := by decide +kernel
theorem dX2_firstStep_81 : decode cX2_firstStep 81 = .ok (.ireturn, 1) := by decide +kernel
theorem dX2_countSettled_0 : decode cX2_countSettled 0 = .ok (.iconst 0, 1) := by decide +kernel
theorem dX2_countSettled_1 : decode cX2_countSettled 1 = .ok (.istore_n 1, 1) := by decide +kernel
theorem dX2_countSettled_2 : decode cX2_countSettled 2 = .ok (.iconst 0, 1) := by decide +kernel
theorem dX2_countSettled_3 : decode cX2_countSettled 3 = .ok (.istore_n 2, 1) := by decide +kernel
theorem dX2_countSettled_4 : decode cX2_countSettled 4 = .ok (.iload_n 2, 1) := by decide +kernel
theorem dX2_countSettled_5 : decode cX2_countSettled 5 = .ok (.aload_n 0, 1) := by decide +kernel
theorem dX2_countSettled_6 : decode cX2_countSettled 6 = .ok (.getfield 33, 3) := by decide +kernel
theorem dX2_countSettled_9 : decode cX2_countSettled 9 = .ok (.if_icmp .ge 29, 3) := by decide +kernel
theorem dX2_countSettled_12 : decode cX2_countSettled 12 = .ok (.iload_n 1, 1) := by decide +kernel
theorem dX2_countSettled_13 : decode cX2_countSettled 13 = .ok (.aload_n 0, 1) := by decide +kernel
theorem dX2_countSettled_14 : decode cX2_countSettled 14 = .ok (.iload_n 2, 1) := by decide +kernel
theorem dX2_countSettled_15 : decode cX2_countSettled 15 = .ok (.invokevirtual 129, 3) := by decide +kernel
theorem dX2_countSettled_18 : decode cX2_countSettled 18 = .ok (.iconst 1, 1) := by decide +kernel
theorem dX2_countSettled_19 : decode cX2_countSettled 19 = .ok (.if_icmp .ne 7, 3) := by decide +kernel
theorem dX2_countSettled_22 : decode cX2_countSettled 22 = .ok (.iconst 1, 1) := by decide +kernel
theorem dX2_countSettled_23 : decode cX2_countSettled 23 = .ok (.goto 4, 3) := by decide +kernel
theorem dX2_countSettled_26 : decode cX2_countSettled 26 = .ok (.iconst 0, 1) := by decide +kernel
theorem dX2_countSettled_27 : decode cX2_countSettled 27 = .ok (.invokestatic 132, 3) := by decide +kernel
theorem dX2_countSettled_30 : decode cX2_countSettled 30 = .ok (.iadd, 1) := by decide +kernel
theorem dX2_countSettled_31 : decode cX2_countSettled 31 = .ok (.istore_n 1, 1) := by decide +kernel
theorem dX2_countSettled_32 : decode cX2_countSettled 32 = .ok (.iinc 2 1, 3) := by decide +kernel
theorem dX2_countSettled_35 : decode cX2_countSettled 35 = .ok (.goto (-31), 3) := by decide +kernel
theorem dX2_countSettled_38 : decode cX2_countSettled 38 = .ok (.iload_n 1, 1) := by decide +kernel
theorem dX2_countSettled_39 : decode cX2_countSettled 39 = .ok (.ireturn, 1) := by decide +kernel
theorem dX2_greatestEarliest_0 : decode cX2_greatestEarliest 0 = .ok (.iconst 0, 1) := by decide +kernel
theorem dX2_greatestEarliest_1 : decode cX2_greatestEarliest 1 = .ok (.istore_n 1, 1) := by decide +kernel
theorem dX2_greatestEarliest_2 : decode cX2_greatestEarliest 2 = .ok (.iconst 0, 1) := by decide +kernel
theorem dX2_greatestEarliest_3 : decode cX2_greatestEarliest 3 = .ok (.istore_n 2, 1) := by decide +kernel
theorem dX2_greatestEarliest_4 : decode cX2_greatestEarliest 4 = .ok (.iload_n 2, 1) := by decide +kernel
theorem dX2_greatestEarliest_5 : decode cX2_greatestEarliest 5 = .ok (.aload_n 0, 1) := by decide +kernel
theorem dX2_greatestEarliest_6 : decode cX2_greatestEarliest 6 = .ok (.getfield 33, 3) := by decide +kernel
theorem dX2_greatestEarliest_9 : decode cX2_greatestEarliest 9 = .ok (.if_icmp .ge 19, 3) := by decide +kernel
theorem dX2_greatestEarliest_12 : decode cX2_greatestEarliest 12 = .ok (.iload_n 1, 1) := by decide +kernel
theorem dX2_greatestEarliest_13 : decode cX2_greatestEarliest 13 = .ok (.aload_n 0, 1) := by decide +kernel
theorem dX2_greatestEarliest_14 : decode cX2_greatestEarliest 14 = .ok (.iload_n 2, 1) := by decide +kernel
theorem dX2_greatestEarliest_15 : decode cX2_greatestEarliest 15 = .ok (.invokevirtual 123, 3) := by decide +kernel
theorem dX2_greatestEarliest_18 : decode cX2_greatestEarliest 18 = .ok (.invokestatic 136, 3) := by decide +kernel
theorem dX2_greatestEarliest_21 : decode cX2_greatestEarliest 21 = .ok (.istore_n 1, 1) := by decide +kernel
theorem dX2_greatestEarliest_22 : decode cX2_greatestEarliest 22 = .ok (.iinc 2 1, 3) := by decide +kernel
theorem dX2_greatestEarliest_25 : decode cX2_greatestEarliest 25 = .ok (.goto (-21), 3) := by decide +kernel
theorem dX2_greatestEarliest_28 : decode cX2_greatestEarliest 28 = .ok (.iload_n 1, 1) := by decide +kernel
theorem dX2_greatestEarliest_29 : decode cX2_greatestEarliest 29 = .ok (.ireturn, 1) := by decide +kernel
theorem dX2_room_0 : decode cX2_room 0 = .ok (.iconst 0, 1) := by decide +kernel
theorem dX2_room_1 : decode cX2_room 1 = .ok (.istore_n 1, 1) := by decide +kernel
theorem dX2_room_2 : decode cX2_room 2 = .ok (.iconst 0, 1) := by decide +kernel
theorem dX2_room_3 : decode cX2_room 3 = .ok (.istore_n 2, 1) := by decide +kernel
theorem dX2_room_4 : decode cX2_room 4 = .ok (.iload_n 2, 1) := by decide +kernel
theorem dX2_room_5 : decode cX2_room 5 = .ok (.aload_n 0, 1) := by decide +kernel
theorem dX2_room_6 : decode cX2_room 6 = .ok (.getfield 33, 3) := by decide +kernel
theorem dX2_room_9 : decode cX2_room 9 = .ok (.if_icmp .ge 23, 3) := by decide +kernel
theorem dX2_room_12 : decode cX2_room 12 = .ok (.iload_n 1, 1) := by decide +kernel
theorem dX2_room_13 : decode cX2_room 13 = .ok (.aload_n 0, 1) := by decide +kernel
theorem dX2_room_14 : decode cX2_room 14 = .ok (.iload_n 2, 1) := by decide +kernel
theorem dX2_room_15 : decode cX2_room 15 = .ok (.invokevirtual 120, 3) := by decide +kernel
theorem dX2_room_18 : decode cX2_room 18 = .ok (.aload_n 0, 1) := by decide +kernel
theorem dX2_room_19 : decode cX2_room 19 = .ok (.iload_n 2, 1) := by decide +kernel
theorem dX2_room_20 : decode cX2_room 20 = .ok (.invokevirtual 123, 3) := by decide +kernel
theorem dX2_room_23 : decode cX2_room 23 = .ok (.isub, 1) := by decide +kernel
theorem dX2_room_24 : decode cX2_room 24 = .ok (.iadd, 1) := by decide +kernel
theorem dX2_room_25 : decode cX2_room 25 = .ok (.istore_n 1, 1) := by decide +kernel
theorem dX2_room_26 : decode cX2_room 26 = .ok (.iinc 2 1, 3) := by decide +kernel
theorem dX2_room_29 : decode cX2_room 29 = .ok (.goto (-25), 3) := by decide +kernel
theorem dX2_room_32 : decode cX2_room 32 = .ok (.iload_n 1, 1) := by decide +kernel
theorem dX2_room_33 : decode cX2_room 33 = .ok (.ireturn, 1) := by decide +kernel
theorem dX2_placeByEarliest_0 : decode cX2_placeByEarliest 0 = .ok (.iconst 0, 1) := by decide +kernel
theorem dX2_placeByEarliest_1 : decode cX2_placeByEarliest 1 = .ok (.istore_n 2, 1) := by decide +kernel
theorem dX2_placeByEarliest_2 : decode cX2_placeByEarliest 2 = .ok (.iconst 0, 1) := by decide +kernel
theorem dX2_placeByEarliest_3 : decode cX2_placeByEarliest 3 = .ok (.istore_n 3, 1) := by decide +kernel
theorem dX2_placeByEarliest_4 : decode cX2_placeByEarliest 4 = .ok (.iload_n 3, 1) := by decide +kernel
theorem dX2_placeByEarliest_5 : decode cX2_placeByEarliest 5 = .ok (.aload_n 0, 1) := by decide +kernel
theorem dX2_placeByEarliest_6 : decode cX2_placeByEarliest 6 = .ok (.getfield 33, 3) := by decide +kernel
theorem dX2_placeByEarliest_9 : decode cX2_placeByEarliest 9 = .ok (.if_icmp .ge 48, 3) := by decide +kernel
theorem dX2_placeByEarliest_12 : decode cX2_placeByEarliest 12 = .ok (.aload_n 0, 1) := by decide +kernel
theorem dX2_placeByEarliest_13 : decode cX2_placeByEarliest 13 = .ok (.iload_n 1, 1) := by decide +kernel
theorem dX2_placeByEarliest_14 : decode cX2_placeByEarliest 14 = .ok (.invokevirtual 123, 3) := by decide +kernel
theorem dX2_placeByEarliest_17 : decode cX2_placeByEarliest 17 = .ok (.aload_n 0, 1) := by decide +kernel
theorem dX2_placeByEarliest_18 : decode cX2_placeByEarliest 18 = .ok (.iload_n 3, 1) := by decide +kernel
theorem dX2_placeByEarliest_19 : decode cX2_placeByEarliest 19 = .ok (.invokevirtual 123, 3) := by decide +kernel
theorem dX2_placeByEarliest_22 : decode cX2_placeByEarliest 22 = .ok (.isub, 1) := by decide +kernel
theorem dX2_placeByEarliest_23 : decode cX2_placeByEarliest 23 = .ok (.istore 4, 2) := by decide +kernel
theorem dX2_placeByEarliest_25 : decode cX2_placeByEarliest 25 = .ok (.iload_n 2, 1) := by decide +kernel
theorem dX2_placeByEarliest_26 : decode cX2_placeByEarliest 26 = .ok (.iload 4, 2) := by decide +kernel
theorem dX2_placeByEarliest_28 : decode cX2_placeByEarliest 28 = .ok (.ifCond .gt 13, 3) := by decide +kernel
theorem dX2_placeByEarliest_31 : decode cX2_placeByEarliest 31 = .ok (.iload 4, 2) := by decide +kernel
theorem dX2_placeByEarliest_33 : decode cX2_placeByEarliest 33 = .ok (.ifCond .ne 12, 3) := by decide +kernel
theorem dX2_placeByEarliest_36 : decode cX2_placeByEarliest 36 = .ok (.iload_n 3, 1) := by decide +kernel
theorem dX2_placeByEarliest_37 : decode cX2_placeByEarliest 37 = .ok (.iload_n 1, 1) := by decide +kernel
theorem dX2_placeByEarliest_38 : decode cX2_placeByEarliest 38 = .ok (.if_icmp .ge 7, 3) := by decide +kernel
theorem dX2_placeByEarliest_41 : decode cX2_placeByEarliest 41 = .ok (.iconst 1, 1) := by decide +kernel
theorem dX2_placeByEarliest_42 : decode cX2_placeByEarliest 42 = .ok (.goto 4, 3) := by decide +kernel
theorem dX2_placeByEarliest_45 : decode cX2_placeByEarliest 45 = .ok (.iconst 0, 1) := by decide +kernel
theorem dX2_placeByEarliest_46 : decode cX2_placeByEarliest 46 = .ok (.invokestatic 132, 3) := by decide +kernel
theorem dX2_placeByEarliest_49 : decode cX2_placeByEarliest 49 = .ok (.iadd, 1) := by decide +kernel
theorem dX2_placeByEarliest_50 : decode cX2_placeByEarliest 50 = .ok (.istore_n 2, 1) := by decide +kernel
theorem dX2_placeByEarliest_51 : decode cX2_placeByEarliest 51 = .ok (.iinc 3 1, 3) := by decide +kernel
theorem dX2_placeByEarliest_54 : decode cX2_placeByEarliest 54 = .ok (.goto (-50), 3) := by decide +kernel
theorem dX2_placeByEarliest_57 : decode cX2_placeByEarliest 57 = .ok (.iload_n 2, 1) := by decide +kernel
theorem dX2_placeByEarliest_58 : decode cX2_placeByEarliest 58 = .ok (.ireturn, 1) := by decide +kernel
theorem dX2_placeByLatest_0 : decode cX2_placeByLatest 0 = .ok (.iconst 0, 1) := by decide +kernel
theorem dX2_placeByLatest_1 : decode cX2_placeByLatest 1 = .ok (.istore_n 2, 1) := by decide +kernel
theorem dX2_placeByLatest_2 : decode cX2_placeByLatest 2 = .ok (.iconst 0, 1) := by decide +kernel
theorem dX2_placeByLatest_3 : decode cX2_placeByLatest 3 = .ok (.istore_n 3, 1) := by decide +kernel
theorem dX2_placeByLatest_4 : decode cX2_placeByLatest 4 = .ok (.iload_n 3, 1) := by decide +kernel
theorem dX2_placeByLatest_5 : decode cX2_placeByLatest 5 = .ok (.aload_n 0, 1) := by decide +kernel
theorem dX2_placeByLatest_6 : decode cX2_placeByLatest 6 = .ok (.getfield 33, 3) := by decide +kernel
theorem dX2_placeByLatest_9 : decode cX2_placeByLatest 9 = .ok (.if_icmp .ge 48, 3) := by decide +kernel
theorem dX2_placeByLatest_12 : decode cX2_placeByLatest 12 = .ok (.aload_n 0, 1) := by decide +kernel
theorem dX2_placeByLatest_13 : decode cX2_placeByLatest 13 = .ok (.iload_n 1, 1) := by decide +kernel
theorem dX2_placeByLatest_14 : decode cX2_placeByLatest 14 = .ok (.invokevirtual 120, 3) := by decide +kernel
theorem dX2_placeByLatest_17 : decode cX2_placeByLatest 17 = .ok (.aload_n 0, 1) := by decide +kernel
theorem dX2_placeByLatest_18 : decode cX2_placeByLatest 18 = .ok (.iload_n 3, 1) := by decide +kernel
theorem dX2_placeByLatest_19 : decode cX2_placeByLatest 19 = .ok (.invokevirtual 120, 3) := by decide +kernel
theorem dX2_placeByLatest_22 : decode cX2_placeByLatest 22 = .ok (.isub, 1) := by decide +kernel
theorem dX2_placeByLatest_23 : decode cX2_placeByLatest 23 = .ok (.istore 4, 2) := by decide +kernel
theorem dX2_placeByLatest_25 : decode cX2_placeByLatest 25 = .ok (.iload_n 2, 1) := by decide +kernel
theorem dX2_placeByLatest_26 : decode cX2_placeByLatest 26 = .ok (.iload 4, 2) := by decide +kernel
theorem dX2_placeByLatest_28 : decode cX2_placeByLatest 28 = .ok (.ifCond .gt 13, 3) := by decide +kernel
theorem dX2_placeByLatest_31 : decode cX2_placeByLatest 31 = .ok (.iload 4, 2) := by decide +kernel
theorem dX2_placeByLatest_33 : decode cX2_placeByLatest 33 = .ok (.ifCond .ne 12, 3) := by decide +kernel
theorem dX2_placeByLatest_36 : decode cX2_placeByLatest 36 = .ok (.iload_n 3, 1) := by decide +kernel
theorem dX2_placeByLatest_37 : decode cX2_placeByLatest 37 = .ok (.iload_n 1, 1) := by decide +kernel
theorem dX2_placeByLatest_38 : decode cX2_placeByLatest 38 = .ok (.if_icmp .ge 7, 3) := by decide +kernel
theorem dX2_placeByLatest_41 : decode cX2_placeByLatest 41 = .ok (.iconst 1, 1) := by decide +kernel
theorem dX2_placeByLatest_42 : decode cX2_placeByLatest 42 = .ok (.goto 4, 3) := by decide +kernel
theorem dX2_placeByLatest_45 : decode cX2_placeByLatest 45 = .ok (.iconst 0, 1) := by decide +kernel
theorem dX2_placeByLatest_46 : decode cX2_placeByLatest 46 = .ok (.invokestatic 132, 3) := by decide +kernel
theorem dX2_placeByLatest_49 : decode cX2_placeByLatest 49 = .ok (.iadd, 1) := by decide +kernel
theorem dX2_placeByLatest_50 : decode cX2_placeByLatest 50 = .ok (.istore_n 2, 1) := by decide +kernel
theorem dX2_placeByLatest_51 : decode cX2_placeByLatest 51 = .ok (.iinc 3 1, 3) := by decide +kernel
theorem dX2_placeByLatest_54 : decode cX2_placeByLatest 54 = .ok (.goto (-50), 3) := by decide +kernel
theorem dX2_placeByLatest_57 : decode cX2_placeByLatest 57 = .ok (.iload_n 2, 1) := by decide +kernel
theorem dX2_placeByLatest_58 : decode cX2_placeByLatest 58 = .ok (.ireturn, 1) := by decide +kernel
theorem dX2_countOtherBounds_0 : decode cX2_countOtherBounds 0 = .ok (.iconst 0, 1) := by decide +kernel
theorem dX2_countOtherBounds_1 : decode cX2_countOtherBounds 1 = .ok (.istore_n 2, 1) := by decide +kernel
theorem dX2_countOtherBounds_2 : decode cX2_countOtherBounds 2 = .ok (.iconst 0, 1) := by decide +kernel
theorem dX2_countOtherBounds_3 : decode cX2_countOtherBounds 3 = .ok (.istore_n 3, 1) := by decide +kernel
theorem dX2_countOtherBounds_4 : decode cX2_countOtherBounds 4 = .ok (.iload_n 3, 1) := by decide +kernel
theorem dX2_countOtherBounds_5 : decode cX2_countOtherBounds 5 = .ok (.aload_n 0, 1) := by decide +kernel
theorem dX2_countOtherBounds_6 : decode cX2_countOtherBounds 6 = .ok (.getfield 33, 3) := by decide +kernel
theorem dX2_countOtherBounds_9 : decode cX2_countOtherBounds 9 = .ok (.if_icmp .ge 55, 3) := by decide +kernel
theorem dX2_countOtherBounds_12 : decode cX2_countOtherBounds 12 = .ok (.iconst 0, 1) := by decide +kernel
theorem dX2_countOtherBounds_13 : decode cX2_countOtherBounds 13 = .ok (.istore 4, 2) := by decide +kernel
theorem dX2_countOtherBounds_15 : decode cX2_countOtherBounds 15 = .ok (.iload 4, 2) := by decide +kernel
theorem dX2_countOtherBounds_17 : decode cX2_countOtherBounds 17 = .ok (.aload_n 0, 1) := by decide +kernel
theorem dX2_countOtherBounds_18 : decode cX2_countOtherBounds 18 = .ok (.getfield 33, 3) := by decide +kernel
theorem dX2_countOtherBounds_21 : decode cX2_countOtherBounds 21 = .ok (.if_icmp .ge 37, 3) := by decide +kernel
theorem dX2_countOtherBounds_24 : decode cX2_countOtherBounds 24 = .ok (.iload_n 2, 1) := by decide +kernel
theorem dX2_countOtherBounds_25 : decode cX2_countOtherBounds 25 = .ok (.aload_n 0, 1) := by decide +kernel
theorem dX2_countOtherBounds_26 : decode cX2_countOtherBounds 26 = .ok (.iload_n 3, 1) := by decide +kernel
theorem dX2_countOtherBounds_27 : decode cX2_countOtherBounds 27 = .ok (.iload 4, 2) := by decide +kernel
theorem dX2_countOtherBounds_29 : decode cX2_countOtherBounds 29 = .ok (.invokevirtual 117, 3) := by decide +kernel
theorem dX2_countOtherBounds_32 : decode cX2_countOtherBounds 32 = .ok (.aload_n 1, 1) := by decide +kernel
theorem dX2_countOtherBounds_33 : decode cX2_countOtherBounds 33 = .ok (.iload_n 3, 1) := by decide +kernel
theorem dX2_countOtherBounds_34 : decode cX2_countOtherBounds 34 = .ok (.iload 4, 2) := by decide +kernel
theorem dX2_countOtherBounds_36 : decode cX2_countOtherBounds 36 = .ok (.invokevirtual 117, 3) := by decide +kernel
theorem dX2_countOtherBounds_39 : decode cX2_countOtherBounds 39 = .ok (.if_icmp .eq 7, 3) := by decide +kernel
theorem dX2_countOtherBounds_42 : decode cX2_countOtherBounds 42 = .ok (.iconst 1, 1) := by decide +kernel
theorem dX2_countOtherBounds_43 : decode cX2_countOtherBounds 43 = .ok (.goto 4, 3) := by decide +kernel
theorem dX2_countOtherBounds_46 : decode cX2_countOtherBounds 46 = .ok (.iconst 0, 1) := by decide +kernel
theorem dX2_countOtherBounds_47 : decode cX2_countOtherBounds 47 = .ok (.invokestatic 132, 3) := by decide +kernel
theorem dX2_countOtherBounds_50 : decode cX2_countOtherBounds 50 = .ok (.iadd, 1) := by decide +kernel
theorem dX2_countOtherBounds_51 : decode cX2_countOtherBounds 51 = .ok (.istore_n 2, 1) := by decide +kernel
theorem dX2_countOtherBounds_52 : decode cX2_countOtherBounds 52 = .ok (.iinc 4 1, 3) := by decide +kernel
theorem dX2_countOtherBounds_55 : decode cX2_countOtherBounds 55 = .ok (.goto (-40), 3) := by decide +kernel
theorem dX2_countOtherBounds_58 : decode cX2_countOtherBounds 58 = .ok (.iinc 3 1, 3) := by decide +kernel
theorem dX2_countOtherBounds_61 : decode cX2_countOtherBounds 61 = .ok (.goto (-57), 3) := by decide +kernel
theorem dX2_countOtherBounds_64 : decode cX2_countOtherBounds 64 = .ok (.iload_n 2, 1) := by decide +kernel
theorem dX2_countOtherBounds_65 : decode cX2_countOtherBounds 65 = .ok (.ireturn, 1) := by decide +kernel
theorem dX2_countOtherTimes_0 : decode cX2_countOtherTimes 0 = .ok (.iconst 0, 1) := by decide +kernel
theorem dX2_countOtherTimes_1 : decode cX2_countOtherTimes 1 = .ok (.istore_n 2, 1) := by decide +kernel
theorem dX2_countOtherTimes_2 : decode cX2_countOtherTimes 2 = .ok (.iconst 0, 1) := by decide +kernel
theorem dX2_countOtherTimes_3 : decode cX2_countOtherTimes 3 = .ok (.istore_n 3, 1) := by decide +kernel
theorem dX2_countOtherTimes_4 : decode cX2_countOtherTimes 4 = .ok (.iload_n 3, 1) := by decide +kernel
theorem dX2_countOtherTimes_5 : decode cX2_countOtherTimes 5 = .ok (.aload_n 0, 1) := by decide +kernel
theorem dX2_countOtherTimes_6 : decode cX2_countOtherTimes 6 = .ok (.getfield 33, 3) := by decide +kernel
theorem dX2_countOtherTimes_9 : decode cX2_countOtherTimes 9 = .ok (.if_icmp .ge 46, 3) := by decide +kernel
theorem dX2_countOtherTimes_12 : decode cX2_countOtherTimes 12 = .ok (.iload_n 2, 1) := by decide +kernel
theorem dX2_countOtherTimes_13 : decode cX2_countOtherTimes 13 = .ok (.aload_n 0, 1) := by decide +kernel
theorem dX2_countOtherTimes_14 : decode cX2_countOtherTimes 14 = .ok (.iload_n 3, 1) := by decide +kernel
theorem dX2_countOtherTimes_15 : decode cX2_countOtherTimes 15 = .ok (.invokevirtual 123, 3) := by decide +kernel
theorem dX2_countOtherTimes_18 : decode cX2_countOtherTimes 18 = .ok (.aload_n 1, 1) := by decide +kernel
theorem dX2_countOtherTimes_19 : decode cX2_countOtherTimes 19 = .ok (.iload_n 3, 1) := by decide +kernel
theorem dX2_countOtherTimes_20 : decode cX2_countOtherTimes 20 = .ok (.invokevirtual 123, 3) := by decide +kernel
theorem dX2_countOtherTimes_23 : decode cX2_countOtherTimes 23 = .ok (.if_icmp .ne 16, 3) := by decide +kernel
theorem dX2_countOtherTimes_26 : decode cX2_countOtherTimes 26 = .ok (.aload_n 0, 1) := by decide +kernel
theorem dX2_countOtherTimes_27 : decode cX2_countOtherTimes 27 = .ok (.iload_n 3, 1) := by decide +kernel
theorem dX2_countOtherTimes_28 : decode cX2_countOtherTimes 28 = .ok (.invokevirtual 120, 3) := by decide +kernel
theorem dX2_countOtherTimes_31 : decode cX2_countOtherTimes 31 = .ok (.aload_n 1, 1) := by decide +kernel
theorem dX2_countOtherTimes_32 : decode cX2_countOtherTimes 32 = .ok (.iload_n 3, 1) := by decide +kernel
theorem dX2_countOtherTimes_33 : decode cX2_countOtherTimes 33 = .ok (.invokevirtual 120, 3) := by decide +kernel
theorem dX2_countOtherTimes_36 : decode cX2_countOtherTimes 36 = .ok (.if_icmp .eq 7, 3) := by decide +kernel
theorem dX2_countOtherTimes_39 : decode cX2_countOtherTimes 39 = .ok (.iconst 1, 1) := by decide +kernel
theorem dX2_countOtherTimes_40 : decode cX2_countOtherTimes 40 = .ok (.goto 4, 3) := by decide +kernel
theorem dX2_countOtherTimes_43 : decode cX2_countOtherTimes 43 = .ok (.iconst 0, 1) := by decide +kernel
theorem dX2_countOtherTimes_44 : decode cX2_countOtherTimes 44 = .ok (.invokestatic 132, 3) := by decide +kernel
theorem dX2_countOtherTimes_47 : decode cX2_countOtherTimes 47 = .ok (.iadd, 1) := by decide +kernel
theorem dX2_countOtherTimes_48 : decode cX2_countOtherTimes 48 = .ok (.istore_n 2, 1) := by decide +kernel
theorem dX2_countOtherTimes_49 : decode cX2_countOtherTimes 49 = .ok (.iinc 3 1, 3) := by decide +kernel
theorem dX2_countOtherTimes_52 : decode cX2_countOtherTimes 52 = .ok (.goto (-48), 3) := by decide +kernel
theorem dX2_countOtherTimes_55 : decode cX2_countOtherTimes 55 = .ok (.iload_n 2, 1) := by decide +kernel
theorem dX2_countOtherTimes_56 : decode cX2_countOtherTimes 56 = .ok (.ireturn, 1) := by decide +kernel
theorem dX3_init_0 : decode cX3_init 0 = .ok (.aload_n 0, 1) := by decide +kernel
theorem dX3_init_1 : decode cX3_init 1 = .ok (.invokespecial 3, 3) := by decide +kernel
theorem dX3_init_4 : decode cX3_init 4 = .ok (.aload_n 0, 1) := by decide +kernel
theorem dX3_init_5 : decode cX3_init 5 = .ok (.bipush 50, 2) := by decide +kernel
theorem dX3_init_7 : decode cX3_init 7 = .ok (.newarray .int, 2) := by decide +kernel
theorem dX3_init_9 : decode cX3_init 9 = .ok (.putfield 9, 3) := by decide +kernel
theorem dX3_init_12 : decode cX3_init 12 = .ok (.aload_n 0, 1) := by decide +kernel
theorem dX3_init_13 : decode cX3_init 13 = .ok (.bipush 10, 2) := by decide +kernel
theorem dX3_init_15 : decode cX3_init 15 = .ok (.newarray .int, 2) := by decide +kernel
theorem dX3_init_17 : decode cX3_init 17 = .ok (.putfield 15, 3) := by decide +kernel
theorem dX3_init_20 : decode cX3_init 20 = .ok (.aload_n 0, 1) := by decide +kernel
theorem dX3_init_21 : decode cX3_init 21 = .ok (.bipush 10, 2) := by decide +kernel
theorem dX3_init_23 : decode cX3_init 23 = .ok (.newarray .int, 2) := by decide +kernel
theorem dX3_init_25 : decode cX3_init 25 = .ok (.putfield 18, 3) := by decide +kernel
theorem dX3_init_28 : decode cX3_init 28 = .ok (.aload_n 0, 1) := by decide +kernel
theorem dX3_init_29 : decode cX3_init 29 = .ok (.bipush 24, 2) := by decide +kernel
theorem dX3_init_31 : decode cX3_init 31 = .ok (.newarray .int, 2) := by decide +kernel
theorem dX3_init_33 : decode cX3_init 33 = .ok (.putfield 21, 3) := by decide +kernel
theorem dX3_init_36 : decode cX3_init 36 = .ok (.aload_n 0, 1) := by decide +kernel
theorem dX3_init_37 : decode cX3_init 37 = .ok (.bipush 24, 2) := by decide +kernel
theorem dX3_init_39 : decode cX3_init 39 = .ok (.newarray .int, 2) := by decide +kernel
theorem dX3_init_41 : decode cX3_init 41 = .ok (.putfield 24, 3) := by decide +kernel
theorem dX3_init_44 : decode cX3_init 44 = .ok (.aload_n 0, 1) := by decide +kernel
theorem dX3_init_45 : decode cX3_init 45 = .ok (.bipush 24, 2) := by decide +kernel
theorem dX3_init_47 : decode cX3_init 47 = .ok (.newarray .int, 2) := by decide +kernel
theorem dX3_init_49 : decode cX3_init 49 = .ok (.putfield 27, 3) := by decide +kernel
theorem dX3_init_52 : decode cX3_init 52 = .ok (.aload_n 0, 1) := by decide +kernel
theorem dX3_init_53 : decode cX3_init 53 = .ok (.bipush 24, 2) := by decide +kernel
theorem dX3_init_55 : decode cX3_init 55 = .ok (.newarray .int, 2) := by decide +kernel
theorem dX3_init_57 : decode cX3_init 57 = .ok (.putfield 30, 3) := by decide +kernel
theorem dX3_init_60 : decode cX3_init 60 = .ok (.aload_n 0, 1) := by decide +kernel
theorem dX3_init_61 : decode cX3_init 61 = .ok (.bipush 24, 2) := by decide +kernel
theorem dX3_init_63 : decode cX3_init 63 = .ok (.newarray .boolean, 2) := by decide +kernel
theorem dX3_init_65 : decode cX3_init 65 = .ok (.putfield 33, 3) := by decide +kernel
theorem dX3_init_68 : decode cX3_init 68 = .ok (.aload_n 0, 1) := by decide +kernel
theorem dX3_init_69 : decode cX3_init 69 = .ok (.new 37, 3) := by decide +kernel
theorem dX3_init_72 : decode cX3_init 72 = .ok (.dup, 1) := by decide +kernel
theorem dX3_init_73 : decode cX3_init 73 = .ok (.invokespecial 39, 3) := by decide +kernel
theorem dX3_init_76 : decode cX3_init 76 = .ok (.putfield 40, 3) := by decide +kernel
theorem dX3_init_79 : decode cX3_init 79 = .ok (.return_, 1) := by decide +kernel
theorem dX3_clear_0 : decode cX3_clear 0 = .ok (.aload_n 0, 1) := by decide +kernel
theorem dX3_clear_1 : decode cX3_clear 1 = .ok (.bipush 100, 2) := by decide +kernel
theorem dX3_clear_3 : decode cX3_clear 3 = .ok (.putfield 44, 3) := by decide +kernel
theorem dX3_clear_6 : decode cX3_clear 6 = .ok (.aload_n 0, 1) := by decide +kernel
theorem dX3_clear_7 : decode cX3_clear 7 = .ok (.iconst 0, 1) := by decide +kernel
theorem dX3_clear_8 : decode cX3_clear 8 = .ok (.putfield 48, 3) := by decide +kernel
theorem dX3_clear_11 : decode cX3_clear 11 = .ok (.aload_n 0, 1) := by decide +kernel
theorem dX3_clear_12 : decode cX3_clear 12 = .ok (.iconst 0, 1) := by decide +kernel
theorem dX3_clear_13 : decode cX3_clear 13 = .ok (.putfield 51, 3) := by decide +kernel
theorem dX3_clear_16 : decode cX3_clear 16 = .ok (.aload_n 0, 1) := by decide +kernel
theorem dX3_clear_17 : decode cX3_clear 17 = .ok (.getfield 40, 3) := by decide +kernel
theorem dX3_clear_20 : decode cX3_clear 20 = .ok (.invokevirtual 54, 3) := by decide +kernel
theorem dX3_clear_23 : decode cX3_clear 23 = .ok (.aload_n 0, 1) := by decide +kernel
theorem dX3_clear_24 : decode cX3_clear 24 = .ok (.invokevirtual 57, 3) := by decide +kernel
theorem dX3_clear_27 : decode cX3_clear 27 = .ok (.return_, 1) := by decide +kernel
theorem dX3_addStart_0 : decode cX3_addStart 0 = .ok (.ldc 60, 2) := by decide +kernel
theorem dX3_addStart_2 : decode cX3_addStart 2 = .ok (.astore_n 1, 1) := by decide +kernel
theorem dX3_addStart_3 : decode cX3_addStart 3 = .ok (.iconst 0, 1) := by decide +kernel
theorem dX3_addStart_4 : decode cX3_addStart 4 = .ok (.istore_n 2, 1) := by decide +kernel
theorem dX3_addStart_5 : decode cX3_addStart 5 = .ok (.iload_n 2, 1) := by decide +kernel
theorem dX3_addStart_6 : decode cX3_addStart 6 = .ok (.aload_n 1, 1) := by decide +kernel
theorem dX3_addStart_7 : decode cX3_addStart 7 = .ok (.invokevirtual 62, 3) := by decide +kernel
theorem dX3_addStart_10 : decode cX3_addStart 10 = .ok (.if_icmp .ge 27, 3) := by decide +kernel
theorem dX3_addStart_13 : decode cX3_addStart 13 = .ok (.iload_n 2, 1) := by decide +kernel
theorem dX3_addStart_14 : decode cX3_addStart 14 = .ok (.iconst 5, 1) := by decide +kernel
theorem dX3_addStart_15 : decode cX3_addStart 15 = .ok (.if_icmp .ge 22, 3) := by decide +kernel
theorem dX3_addStart_18 : decode cX3_addStart 18 = .ok (.aload_n 0, 1) := by decide +kernel
theorem dX3_addStart_19 : decode cX3_addStart 19 = .ok (.getfield 9, 3) := by decide +kernel
theorem dX3_addStart_22 : decode cX3_addStart 22 = .ok (.iconst 0, 1) := by decide +kernel
theorem dX3_addStart_23 : decode cX3_addStart 23 = .ok (.iload_n 2, 1) := by decide +kernel
theorem dX3_addStart_24 : decode cX3_addStart 24 = .ok (.iadd, 1) := by decide +kernel
theorem dX3_addStart_25 : decode cX3_addStart 25 = .ok (.aload_n 1, 1) := by decide +kernel
theorem dX3_addStart_26 : decode cX3_addStart 26 = .ok (.iload_n 2, 1) := by decide +kernel
theorem dX3_addStart_27 : decode cX3_addStart 27 = .ok (.invokevirtual 68, 3) := by decide +kernel
theorem dX3_addStart_30 : decode cX3_addStart 30 = .ok (.iastore, 1) := by decide +kernel
theorem dX3_addStart_31 : decode cX3_addStart 31 = .ok (.iinc 2 1, 3) := by decide +kernel
theorem dX3_addStart_34 : decode cX3_addStart 34 = .ok (.goto (-29), 3) := by decide +kernel
theorem dX3_addStart_37 : decode cX3_addStart 37 = .ok (.aload_n 0, 1) := by decide +kernel
theorem dX3_addStart_38 : decode cX3_addStart 38 = .ok (.getfield 15, 3) := by decide +kernel
theorem dX3_addStart_41 : decode cX3_addStart 41 = .ok (.iconst 0, 1) := by decide +kernel
theorem dX3_addStart_42 : decode cX3_addStart 42 = .ok (.aload_n 1, 1) := by decide +kernel
theorem dX3_addStart_43 : decode cX3_addStart 43 = .ok (.invokevirtual 62, 3) := by decide +kernel
theorem dX3_addStart_46 : decode cX3_addStart 46 = .ok (.iastore, 1) := by decide +kernel
theorem dX3_addStart_47 : decode cX3_addStart 47 = .ok (.aload_n 0, 1) := by decide +kernel
theorem dX3_addStart_48 : decode cX3_addStart 48 = .ok (.getfield 18, 3) := by decide +kernel
theorem dX3_addStart_51 : decode cX3_addStart 51 = .ok (.iconst 0, 1) := by decide +kernel
theorem dX3_addStart_52 : decode cX3_addStart 52 = .ok (.iconst (-1), 1) := by decide +kernel
theorem dX3_addStart_53 : decode cX3_addStart 53 = .ok (.iastore, 1) := by decide +kernel
theorem dX3_addStart_54 : decode cX3_addStart 54 = .ok (.aload_n 0, 1) := by decide +kernel
theorem dX3_addStart_55 : decode cX3_addStart 55 = .ok (.iconst 1, 1) := by decide +kernel
theorem dX3_addStart_56 : decode cX3_addStart 56 = .ok (.putfield 48, 3) := by decide +kernel
theorem dX3_addStart_59 : decode cX3_addStart 59 = .ok (.return_, 1) := by decide +kernel
theorem dX3_copyFrom_0 : decode cX3_copyFrom 0 = .ok (.aload_n 1, 1) := by decide +kernel
theorem dX3_copyFrom_1 : decode cX3_copyFrom 1 = .ok (.getfield 9, 3) := by decide +kernel
theorem dX3_copyFrom_4 : decode cX3_copyFrom 4 = .ok (.iconst 0, 1) := by decide +kernel
theorem dX3_copyFrom_5 : decode cX3_copyFrom 5 = .ok (.aload_n 0, 1) := by decide +kernel
theorem dX3_copyFrom_6 : decode cX3_copyFrom 6 = .ok (.getfield 9, 3) := by decide +kernel
theorem dX3_copyFrom_9 : decode cX3_copyFrom 9 = .ok (.iconst 0, 1) := by decide +kernel
theorem dX3_copyFrom_10 : decode cX3_copyFrom 10 = .ok (.aload_n 0, 1) := by decide +kernel
theorem dX3_copyFrom_11 : decode cX3_copyFrom 11 = .ok (.getfield 9, 3) := by decide +kernel
theorem dX3_copyFrom_14 : decode cX3_copyFrom 14 = .ok (.arraylength, 1) := by decide +kernel
theorem dX3_copyFrom_15 : decode cX3_copyFrom 15 = .ok (.invokestatic 72, 3) := by decide +kernel
theorem dX3_copyFrom_18 : decode cX3_copyFrom 18 = .ok (.aload_n 1, 1) := by decide +kernel
theorem dX3_copyFrom_19 : decode cX3_copyFrom 19 = .ok (.getfield 15, 3) := by decide +kernel
theorem dX3_copyFrom_22 : decode cX3_copyFrom 22 = .ok (.iconst 0, 1) := by decide +kernel
theorem dX3_copyFrom_23 : decode cX3_copyFrom 23 = .ok (.aload_n 0, 1) := by decide +kernel
theorem dX3_copyFrom_24 : decode cX3_copyFrom 24 = .ok (.getfield 15, 3) := by decide +kernel
theorem dX3_copyFrom_27 : decode cX3_copyFrom 27 = .ok (.iconst 0, 1) := by decide +kernel
theorem dX3_copyFrom_28 : decode cX3_copyFrom 28 = .ok (.bipush 10, 2) := by decide +kernel
theorem dX3_copyFrom_30 : decode cX3_copyFrom 30 = .ok (.invokestatic 72, 3) := by decide +kernel
theorem dX3_copyFrom_33 : decode cX3_copyFrom 33 = .ok (.aload_n 1, 1) := by decide +kernel
theorem dX3_copyFrom_34 : decode cX3_copyFrom 34 = .ok (.getfield 18, 3) := by decide +kernel
theorem dX3_copyFrom_37 : decode cX3_copyFrom 37 = .ok (.iconst 0, 1) := by decide +kernel
theorem dX3_copyFrom_38 : decode cX3_copyFrom 38 = .ok (.aload_n 0, 1) := by decide +kernel
theorem dX3_copyFrom_39 : decode cX3_copyFrom 39 = .ok (.getfield 18, 3) := by decide +kernel
theorem dX3_copyFrom_42 : decode cX3_copyFrom 42 = .ok (.iconst 0, 1) := by decide +kernel
theorem dX3_copyFrom_43 : decode cX3_copyFrom 43 = .ok (.bipush 10, 2) := by decide +kernel
theorem dX3_copyFrom_45 : decode cX3_copyFrom 45 = .ok (.invokestatic 72, 3) := by decide +kernel
theorem dX3_copyFrom_48 : decode cX3_copyFrom 48 = .ok (.aload_n 1, 1) := by decide +kernel
theorem dX3_copyFrom_49 : decode cX3_copyFrom 49 = .ok (.getfield 21, 3) := by decide +kernel
theorem dX3_copyFrom_52 : decode cX3_copyFrom 52 = .ok (.iconst 0, 1) := by decide +kernel
theorem dX3_copyFrom_53 : decode cX3_copyFrom 53 = .ok (.aload_n 0, 1) := by decide +kernel
theorem dX3_copyFrom_54 : decode cX3_copyFrom 54 = .ok (.getfield 21, 3) := by decide +kernel
theorem dX3_copyFrom_57 : decode cX3_copyFrom 57 = .ok (.iconst 0, 1) := by decide +kernel
theorem dX3_copyFrom_58 : decode cX3_copyFrom 58 = .ok (.bipush 24, 2) := by decide +kernel
theorem dX3_copyFrom_60 : decode cX3_copyFrom 60 = .ok (.invokestatic 72, 3) := by decide +kernel
theorem dX3_copyFrom_63 : decode cX3_copyFrom 63 = .ok (.aload_n 1, 1) := by decide +kernel
theorem dX3_copyFrom_64 : decode cX3_copyFrom 64 = .ok (.getfield 24, 3) := by decide +kernel
theorem dX3_copyFrom_67 : decode cX3_copyFrom 67 = .ok (.iconst 0, 1) := by decide +kernel
theorem dX3_copyFrom_68 : decode cX3_copyFrom 68 = .ok (.aload_n 0, 1) := by decide +kernel
theorem dX3_copyFrom_69 : decode cX3_copyFrom 69 = .ok (.getfield 24, 3) := by decide +kernel
theorem dX3_copyFrom_72 : decode cX3_copyFrom 72 = .ok (.iconst 0, 1) := by decide +kernel
theorem dX3_copyFrom_73 : decode cX3_copyFrom 73 = .ok (.bipush 24, 2) := by decide +kernel
theorem dX3_copyFrom_75 : decode cX3_copyFrom 75 = .ok (.invokestatic 72, 3) := by decide +kernel
theorem dX3_copyFrom_78 : decode cX3_copyFrom 78 = .ok (.aload_n 1, 1) := by decide +kernel
theorem dX3_copyFrom_79 : decode cX3_copyFrom 79 = .ok (.getfield 27, 3) := by decide +kernel
theorem dX3_copyFrom_82 : decode cX3_copyFrom 82 = .ok (.iconst 0, 1) := by decide +kernel
theorem dX3_copyFrom_83 : decode cX3_copyFrom 83 = .ok (.aload_n 0, 1) := by decide +kernel
theorem dX3_copyFrom_84 : decode cX3_copyFrom 84 = .ok (.getfield 27, 3) := by decide +kernel
theorem dX3_copyFrom_87 : decode cX3_copyFrom 87 = .ok (.iconst 0, 1) := by decide +kernel
theorem dX3_copyFrom_88 : decode cX3_copyFrom 88 = .ok (.bipush 24, 2) := by decide +kernel
theorem dX3_copyFrom_90 : decode cX3_copyFrom 90 = .ok (.invokestatic 72, 3) := by decide +kernel
theorem dX3_copyFrom_93 : decode cX3_copyFrom 93 = .ok (.aload_n 1, 1) := by decide +kernel
theorem dX3_copyFrom_94 : decode cX3_copyFrom 94 = .ok (.getfield 30, 3) := by decide +kernel
theorem dX3_copyFrom_97 : decode cX3_copyFrom 97 = .ok (.iconst 0, 1) := by decide +kernel
theorem dX3_copyFrom_98 : decode cX3_copyFrom 98 = .ok (.aload_n 0, 1) := by decide +kernel
theorem dX3_copyFrom_99 : decode cX3_copyFrom 99 = .ok (.getfield 30, 3) := by decide +kernel
theorem dX3_copyFrom_102 : decode cX3_copyFrom 102 = .ok (.iconst 0, 1) := by decide +kernel
theorem dX3_copyFrom_103 : decode cX3_copyFrom 103 = .ok (.bipush 24, 2) := by decide +kernel
theorem dX3_copyFrom_105 : decode cX3_copyFrom 105 = .ok (.invokestatic 72, 3) := by decide +kernel
theorem dX3_copyFrom_108 : decode cX3_copyFrom 108 = .ok (.iconst 0, 1) := by decide +kernel
theorem dX3_copyFrom_109 : decode cX3_copyFrom 109 = .ok (.istore_n 2, 1) := by decide +kernel
theorem dX3_copyFrom_110 : decode cX3_copyFrom 110 = .ok (.iload_n 2, 1) := by decide +kernel
theorem dX3_copyFrom_111 : decode cX3_copyFrom 111 = .ok (.bipush 24, 2) := by decide +kernel
theorem dX3_copyFrom_113 : decode cX3_copyFrom 113 = .ok (.if_icmp .ge 21, 3) := by decide +kernel
theorem dX3_copyFrom_116 : decode cX3_copyFrom 116 = .ok (.aload_n 0, 1) := by decide +kernel
theorem dX3_copyFrom_117 : decode cX3_copyFrom 117 = .ok (.getfield 33, 3) := by decide +kernel
theorem dX3_copyFrom_120 : decode cX3_copyFrom 120 = .ok (.iload_n 2, 1) := by decide +kernel
theorem dX3_copyFrom_121 : decode cX3_copyFrom 121 = .ok (.aload_n 1, 1) := by decide +kernel
theorem dX3_copyFrom_122 : decode cX3_copyFrom 122 = .ok (.getfield 33, 3) := by decide +kernel
theorem dX3_copyFrom_125 : decode cX3_copyFrom 125 = .ok (.iload_n 2, 1) := by decide +kernel
theorem dX3_copyFrom_126 : decode cX3_copyFrom 126 = .ok (.baload, 1) := by decide +kernel
theorem dX3_copyFrom_127 : decode cX3_copyFrom 127 = .ok (.bastore, 1) := by decide +kernel
theorem dX3_copyFrom_128 : decode cX3_copyFrom 128 = .ok (.iinc 2 1, 3) := by decide +kernel
theorem dX3_copyFrom_131 : decode cX3_copyFrom 131 = .ok (.goto (-21), 3) := by decide +kernel
theorem dX3_copyFrom_134 : decode cX3_copyFrom 134 = .ok (.aload_n 0, 1) := by decide +kernel
theorem dX3_copyFrom_135 : decode cX3_copyFrom 135 = .ok (.getfield 40, 3) := by decide +kernel
theorem dX3_copyFrom_138 : decode cX3_copyFrom 138 = .ok (.aload_n 1, 1) := by decide +kernel
theorem dX3_copyFrom_139 : decode cX3_copyFrom 139 = .ok (.getfield 40, 3) := by decide +kernel
theorem dX3_copyFrom_142 : decode cX3_copyFrom 142 = .ok (.invokevirtual 78, 3) := by decide +kernel
theorem dX3_copyFrom_145 : decode cX3_copyFrom 145 = .ok (.aload_n 0, 1) := by decide +kernel
theorem dX3_copyFrom_146 : decode cX3_copyFrom 146 = .ok (.aload_n 1, 1) := by decide +kernel
theorem dX3_copyFrom_147 : decode cX3_copyFrom 147 = .ok (.getfield 44, 3) := by decide +kernel
theorem dX3_copyFrom_150 : decode cX3_copyFrom 150 = .ok (.putfield 44, 3) := by decide +kernel
theorem dX3_copyFrom_153 : decode cX3_copyFrom 153 = .ok (.aload_n 0, 1) := by decide +kernel
theorem dX3_copyFrom_154 : decode cX3_copyFrom 154 = .ok (.aload_n 1, 1) := by decide +kernel
theorem dX3_copyFrom_155 : decode cX3_copyFrom 155 = .ok (.getfield 48, 3) := by decide +kernel
theorem dX3_copyFrom_158 : decode cX3_copyFrom 158 = .ok (.putfield 48, 3) := by decide +kernel
theorem dX3_copyFrom_161 : decode cX3_copyFrom 161 = .ok (.aload_n 0, 1) := by decide +kernel
theorem dX3_copyFrom_162 : decode cX3_copyFrom 162 = .ok (.aload_n 1, 1) := by decide +kernel
theorem dX3_copyFrom_163 : decode cX3_copyFrom 163 = .ok (.getfield 51, 3) := by decide +kernel
theorem dX3_copyFrom_166 : decode cX3_copyFrom 166 = .ok (.putfield 51, 3) := by decide +kernel
theorem dX3_copyFrom_169 : decode cX3_copyFrom 169 = .ok (.return_, 1) := by decide +kernel
theorem dX3_addEvent_0 : decode cX3_addEvent 0 = .ok (.aload_n 0, 1) := by decide +kernel
theorem dX3_addEvent_1 : decode cX3_addEvent 1 = .ok (.getfield 48, 3) := by decide +kernel
theorem dX3_addEvent_4 : decode cX3_addEvent 4 = .ok (.bipush 10, 2) := by decide +kernel
theorem dX3_addEvent_6 : decode cX3_addEvent 6 = .ok (.if_icmp .lt 5, 3) := by decide +kernel
theorem dX3_addEvent_9 : decode cX3_addEvent 9 = .ok (.iconst (-1), 1) := by decide +kernel
theorem dX3_addEvent_10 : decode cX3_addEvent 10 = .ok (.ireturn, 1) := by decide +kernel
theorem dX3_addEvent_11 : decode cX3_addEvent 11 = .ok (.aload_n 0, 1) := by decide +kernel
theorem dX3_addEvent_12 : decode cX3_addEvent 12 = .ok (.getfield 48, 3) := by decide +kernel
theorem dX3_addEvent_15 : decode cX3_addEvent 15 = .ok (.istore 4, 2) := by decide +kernel
theorem dX3_addEvent_17 : decode cX3_addEvent 17 = .ok (.aload_n 0, 1) := by decide +kernel
theorem dX3_addEvent_18 : decode cX3_addEvent 18 = .ok (.getfield 18, 3) := by decide +kernel
theorem dX3_addEvent_21 : decode cX3_addEvent 21 = .ok (.iload 4, 2) := by decide +kernel
theorem dX3_addEvent_23 : decode cX3_addEvent 23 = .ok (.iconst (-1), 1) := by decide +kernel
theorem dX3_addEvent_24 : decode cX3_addEvent 24 = .ok (.iastore, 1) := by decide +kernel
theorem dX3_addEvent_25 : decode cX3_addEvent 25 = .ok (.aload_n 0, 1) := by decide +kernel
theorem dX3_addEvent_26 : decode cX3_addEvent 26 = .ok (.dup, 1) := by decide +kernel
theorem dX3_addEvent_27 : decode cX3_addEvent 27 = .ok (.getfield 48, 3) := by decide +kernel
theorem dX3_addEvent_30 : decode cX3_addEvent 30 = .ok (.iconst 1, 1) := by decide +kernel
theorem dX3_addEvent_31 : decode cX3_addEvent 31 = .ok (.iadd, 1) := by decide +kernel
theorem dX3_addEvent_32 : decode cX3_addEvent 32 = .ok (.putfield 48, 3) := by decide +kernel
theorem dX3_addEvent_35 : decode cX3_addEvent 35 = .ok (.aload_n 0, 1) := by decide +kernel
theorem dX3_addEvent_36 : decode cX3_addEvent 36 = .ok (.iload 4, 2) := by decide +kernel
theorem dX3_addEvent_38 : decode cX3_addEvent 38 = .ok (.aload_n 1, 1) := by decide +kernel
theorem dX3_addEvent_39 : decode cX3_addEvent 39 = .ok (.iload_n 2, 1) := by decide +kernel
theorem dX3_addEvent_40 : decode cX3_addEvent 40 = .ok (.iload_n 3, 1) := by decide +kernel
theorem dX3_addEvent_41 : decode cX3_addEvent 41 = .ok (.invokevirtual 82, 3) := by decide +kernel
theorem dX3_addEvent_44 : decode cX3_addEvent 44 = .ok (.iload 4, 2) := by decide +kernel
theorem dX3_addEvent_46 : decode cX3_addEvent 46 = .ok (.ireturn, 1) := by decide +kernel
theorem dX3_nameEvent_0 : decode cX3_nameEvent 0 = .ok (.iconst 0, 1) := by decide +kernel
theorem dX3_nameEvent_1 : decode cX3_nameEvent 1 = .ok (.istore 5, 2) := by decide +kernel
theorem dX3_nameEvent_3 : decode cX3_nameEvent 3 = .ok (.iload 5, 2) := by decide +kernel
theorem dX3_nameEvent_5 : decode cX3_nameEvent 5 = .ok (.iload 4, 2) := by decide +kernel
theorem dX3_nameEvent_7 : decode cX3_nameEvent 7 = .ok (.if_icmp .ge 34, 3) := by decide +kernel
theorem dX3_nameEvent_10 : decode cX3_nameEvent 10 = .ok (.iload 5, 2) := by decide +kernel
theorem dX3_nameEvent_12 : decode cX3_nameEvent 12 = .ok (.iconst 5, 1) := by decide +kernel
theorem dX3_nameEvent_13 : decode cX3_nameEvent 13 = .ok (.if_icmp .ge 28, 3) := by decide +kernel
theorem dX3_nameEvent_16 : decode cX3_nameEvent 16 = .ok (.aload_n 0, 1) := by decide +kernel
theorem dX3_nameEvent_17 : decode cX3_nameEvent 17 = .ok (.getfield 9, 3) := by decide +kernel
theorem dX3_nameEvent_20 : decode cX3_nameEvent 20 = .ok (.iload_n 1, 1) := by decide +kernel
theorem dX3_nameEvent_21 : decode cX3_nameEvent 21 = .ok (.iconst 5, 1) := by decide +kernel
theorem dX3_nameEvent_22 : decode cX3_nameEvent 22 = .ok (.imul, 1) := by decide +kernel
theorem dX3_nameEvent_23 : decode cX3_nameEvent 23 = .ok (.iload 5, 2) := by decide +kernel
theorem dX3_nameEvent_25 : decode cX3_nameEvent 25 = .ok (.iadd, 1) := by decide +kernel
theorem dX3_nameEvent_26 : decode cX3_nameEvent 26 = .ok (.aload_n 2, 1) := by decide +kernel
theorem dX3_nameEvent_27 : decode cX3_nameEvent 27 = .ok (.iload_n 3, 1) := by decide +kernel
theorem dX3_nameEvent_28 : decode cX3_nameEvent 28 = .ok (.iload 5, 2) := by decide +kernel
theorem dX3_nameEvent_30 : decode cX3_nameEvent 30 = .ok (.iadd, 1) := by decide +kernel
theorem dX3_nameEvent_31 : decode cX3_nameEvent 31 = .ok (.invokevirtual 86, 3) := by decide +kernel
theorem dX3_nameEvent_34 : decode cX3_nameEvent 34 = .ok (.iastore, 1) := by decide +kernel
theorem dX3_nameEvent_35 : decode cX3_nameEvent 35 = .ok (.iinc 5 1, 3) := by decide +kernel
theorem dX3_nameEvent_38 : decode cX3_nameEvent 38 = .ok (.goto (-35), 3) := by decide +kernel
theorem dX3_nameEvent_41 : decode cX3_nameEvent 41 = .ok (.aload_n 0, 1) := by decide +kernel
theorem dX3_nameEvent_42 : decode cX3_nameEvent 42 = .ok (.getfield 15, 3) := by decide +kernel
theorem dX3_nameEvent_45 : decode cX3_nameEvent 45 = .ok (.iload_n 1, 1) := by decide +kernel
theorem dX3_nameEvent_46 : decode cX3_nameEvent 46 = .ok (.iload 4, 2) := by decide +kernel
theorem dX3_nameEvent_48 : decode cX3_nameEvent 48 = .ok (.iconst 5, 1) := by decide +kernel
theorem dX3_nameEvent_49 : decode cX3_nameEvent 49 = .ok (.invokestatic 92, 3) := by decide +kernel
theorem dX3_nameEvent_52 : decode cX3_nameEvent 52 = .ok (.iastore, 1) := by decide +kernel
theorem dX3_nameEvent_53 : decode cX3_nameEvent 53 = .ok (.return_, 1) := by decide +kernel
theorem dX3_letterOf_0 : decode cX3_letterOf 0 = .ok (.aload_n 0, 1) := by decide +kernel
theorem dX3_letterOf_1 : decode cX3_letterOf 1 = .ok (.getfield 9, 3) := by decide +kernel
theorem dX3_letterOf_4 : decode cX3_letterOf 4 = .ok (.iload_n 1, 1) := by decide +kernel
theorem dX3_letterOf_5 : decode cX3_letterOf 5 = .ok (.iconst 5, 1) := by decide +kernel
theorem dX3_letterOf_6 : decode cX3_letterOf 6 = .ok (.imul, 1) := by decide +kernel
theorem dX3_letterOf_7 : decode cX3_letterOf 7 = .ok (.iload_n 2, 1) := by decide +kernel
theorem dX3_letterOf_8 : decode cX3_letterOf 8 = .ok (.iadd, 1) := by decide +kernel
theorem dX3_letterOf_9 : decode cX3_letterOf 9 = .ok (.iaload, 1) := by decide +kernel
theorem dX3_letterOf_10 : decode cX3_letterOf 10 = .ok (.ireturn, 1) := by decide +kernel
theorem dX3_findEvent_0 : decode cX3_findEvent 0 = .ok (.iconst 0, 1) := by decide +kernel
theorem dX3_findEvent_1 : decode cX3_findEvent 1 = .ok (.istore 4, 2) := by decide +kernel
theorem dX3_findEvent_3 : decode cX3_findEvent 3 = .ok (.iload 4, 2) := by decide +kernel
theorem dX3_findEvent_5 : decode cX3_findEvent 5 = .ok (.aload_n 0, 1) := by decide +kernel
theorem dX3_findEvent_6 : decode cX3_findEvent 6 = .ok (.getfield 48, 3) := by decide +kernel
theorem dX3_findEvent_9 : decode cX3_findEvent 9 = .ok (.if_icmp .ge 24, 3) := by decide +kernel
theorem dX3_findEvent_12 : decode cX3_findEvent 12 = .ok (.aload_n 0, 1) := by decide +kernel
theorem dX3_findEvent_13 : decode cX3_findEvent 13 = .ok (.iload 4, 2) := by decide +kernel
theorem dX3_findEvent_15 : decode cX3_findEvent 15 = .ok (.aload_n 1, 1) := by decide +kernel
theorem dX3_findEvent_16 : decode cX3_findEvent 16 = .ok (.iload_n 2, 1) := by decide +kernel
theorem dX3_findEvent_17 : decode cX3_findEvent 17 = .ok (.iload_n 3, 1) := by decide +kernel
theorem dX3_findEvent_18 : decode cX3_findEvent 18 = .ok (.invokevirtual 98, 3) := by decide +kernel
theorem dX3_findEvent_21 : decode cX3_findEvent 21 = .ok (.ifCond .eq 6, 3) := by decide +kernel
theorem dX3_findEvent_24 : decode cX3_findEvent 24 = .ok (.iload 4, 2) := by decide +kernel
theorem dX3_findEvent_26 : decode cX3_findEvent 26 = .ok (.ireturn, 1) := by decide +kernel
theorem dX3_findEvent_27 : decode cX3_findEvent 27 = .ok (.iinc 4 1, 3) := by decide +kernel
theorem dX3_findEvent_30 : decode cX3_findEvent 30 = .ok (.goto (-27), 3) := by decide +kernel
theorem dX3_findEvent_33 : decode cX3_findEvent 33 = .ok (.iconst (-1), 1) := by decide +kernel
theorem dX3_findEvent_34 : decode cX3_findEvent 34 = .ok (.ireturn, 1) := by decide +kernel
theorem dX3_isNamed_0 : decode cX3_isNamed 0 = .ok (.aload_n 0, 1) := by decide +kernel
theorem dX3_isNamed_1 : decode cX3_isNamed 1 = .ok (.getfield 15, 3) := by decide +kernel
theorem dX3_isNamed_4 : decode cX3_isNamed 4 = .ok (.iload_n 1, 1) := by decide +kernel
theorem dX3_isNamed_5 : decode cX3_isNamed 5 = .ok (.iaload, 1) := by decide +kernel
theorem dX3_isNamed_6 : decode cX3_isNamed 6 = .ok (.iload 4, 2) := by decide +kernel
theorem dX3_isNamed_8 : decode cX3_isNamed 8 = .ok (.if_icmp .eq 5, 3) := by decide +kernel
theorem dX3_isNamed_11 : decode cX3_isNamed 11 = .ok (.iconst 0, 1) := by decide +kernel
theorem dX3_isNamed_12 : decode cX3_isNamed 12 = .ok (.ireturn, 1) := by decide +kernel
theorem dX3_isNamed_13 : decode cX3_isNamed 13 = .ok (.iconst 0, 1) := by decide +kernel
theorem dX3_isNamed_14 : decode cX3_isNamed 14 = .ok (.istore 5, 2) := by decide +kernel
theorem dX3_isNamed_16 : decode cX3_isNamed 16 = .ok (.iload 5, 2) := by decide +kernel
theorem dX3_isNamed_18 : decode cX3_isNamed 18 = .ok (.iload 4, 2) := by decide +kernel
theorem dX3_isNamed_20 : decode cX3_isNamed 20 = .ok (.if_icmp .ge 29, 3) := by decide +kernel
theorem dX3_isNamed_23 : decode cX3_isNamed 23 = .ok (.aload_n 0, 1) := by decide +kernel
theorem dX3_isNamed_24 : decode cX3_isNamed 24 = .ok (.iload_n 1, 1) := by decide +kernel
theorem dX3_isNamed_25 : decode cX3_isNamed 25 = .ok (.iload 5, 2) := by decide +kernel
theorem dX3_isNamed_27 : decode cX3_isNamed 27 = .ok (.invokevirtual 102, 3) := by decide +kernel
theorem dX3_isNamed_30 : decode cX3_isNamed 30 = .ok (.aload_n 2, 1) := by decide +kernel
theorem dX3_isNamed_31 : decode cX3_isNamed 31 = .ok (.iload_n 3, 1) := by decide +kernel
theorem dX3_isNamed_32 : decode cX3_isNamed 32 = .ok (.iload 5, 2) := by decide +kernel
theorem dX3_isNamed_34 : decode cX3_isNamed 34 = .ok (.iadd, 1) := by decide +kernel
theorem dX3_isNamed_35 : decode cX3_isNamed 35 = .ok (.invokevirtual 86, 3) := by decide +kernel
theorem dX3_isNamed_38 : decode cX3_isNamed 38 = .ok (.if_icmp .eq 5, 3) := by decide +kernel
theorem dX3_isNamed_41 : decode cX3_isNamed 41 = .ok (.iconst 0, 1) := by decide +kernel
theorem dX3_isNamed_42 : decode cX3_isNamed 42 = .ok (.ireturn, 1) := by decide +kernel
theorem dX3_isNamed_43 : decode cX3_isNamed 43 = .ok (.iinc 5 1, 3) := by decide +kernel
theorem dX3_isNamed_46 : decode cX3_isNamed 46 = .ok (.goto (-30), 3) := by decide +kernel
theorem dX3_isNamed_49 : decode cX3_isNamed 49 = .ok (.iconst 1, 1) := by decide +kernel
theorem dX3_isNamed_50 : decode cX3_isNamed 50 = .ok (.ireturn, 1) := by decide +kernel
theorem dX3_addGap_0 : decode cX3_addGap 0 = .ok (.aload_n 0, 1) := by decide +kernel
theorem dX3_addGap_1 : decode cX3_addGap 1 = .ok (.getfield 51, 3) := by decide +kernel
theorem dX3_addGap_4 : decode cX3_addGap 4 = .ok (.bipush 24, 2) := by decide +kernel
theorem dX3_addGap_6 : decode cX3_addGap 6 = .ok (.if_icmp .lt 5, 3) := by decide +kernel
theorem dX3_addGap_9 : decode cX3_addGap 9 = .ok (.iconst (-1), 1) := by decide +kernel
theorem dX3_addGap_10 : decode cX3_addGap 10 = .ok (.ireturn, 1) := by decide +kernel
theorem dX3_addGap_11 : decode cX3_addGap 11 = .ok (.aload_n 0, 1) := by decide +kernel
theorem dX3_addGap_12 : decode cX3_addGap 12 = .ok (.getfield 51, 3) := by decide +kernel
theorem dX3_addGap_15 : decode cX3_addGap 15 = .ok (.istore 6, 2) := by decide +kernel
theorem dX3_addGap_17 : decode cX3_addGap 17 = .ok (.aload_n 0, 1) := by decide +kernel
theorem dX3_addGap_18 : decode cX3_addGap 18 = .ok (.getfield 21, 3) := by decide +kernel
theorem dX3_addGap_21 : decode cX3_addGap 21 = .ok (.iload 6, 2) := by decide +kernel
theorem dX3_addGap_23 : decode cX3_addGap 23 = .ok (.iload_n 1, 1) := by decide +kernel
theorem dX3_addGap_24 : decode cX3_addGap 24 = .ok (.iastore, 1) := by decide +kernel
theorem dX3_addGap_25 : decode cX3_addGap 25 = .ok (.aload_n 0, 1) := by decide +kernel
theorem dX3_addGap_26 : decode cX3_addGap 26 = .ok (.getfield 24, 3) := by decide +kernel
theorem dX3_addGap_29 : decode cX3_addGap 29 = .ok (.iload 6, 2) := by decide +kernel
theorem dX3_addGap_31 : decode cX3_addGap 31 = .ok (.iload_n 2, 1) := by decide +kernel
theorem dX3_addGap_32 : decode cX3_addGap 32 = .ok (.iastore, 1) := by decide +kernel
theorem dX3_addGap_33 : decode cX3_addGap 33 = .ok (.aload_n 0, 1) := by decide +kernel
theorem dX3_addGap_34 : decode cX3_addGap 34 = .ok (.getfield 27, 3) := by decide +kernel
theorem dX3_addGap_37 : decode cX3_addGap 37 = .ok (.iload 6, 2) := by decide +kernel
theorem dX3_addGap_39 : decode cX3_addGap 39 = .ok (.iload_n 3, 1) := by decide +kernel
theorem dX3_addGap_40 : decode cX3_addGap 40 = .ok (.iastore, 1) := by decide +kernel
theorem dX3_addGap_41 : decode cX3_addGap 41 = .ok (.aload_n 0, 1) := by decide +kernel
theorem dX3_addGap_42 : decode cX3_addGap 42 = .ok (.getfield 30, 3) := by decide +kernel
theorem dX3_addGap_45 : decode cX3_addGap 45 = .ok (.iload 6, 2) := by decide +kernel
theorem dX3_addGap_47 : decode cX3_addGap 47 = .ok (.iload 4, 2) := by decide +kernel
theorem dX3_addGap_49 : decode cX3_addGap 49 = .ok (.iastore, 1) := by decide +kernel
theorem dX3_addGap_50 : decode cX3_addGap 50 = .ok (.aload_n 0, 1) := by decide +kernel
theorem dX3_addGap_51 : decode cX3_addGap 51 = .ok (.getfield 33, 3) := by decide +kernel
theorem dX3_addGap_54 : decode cX3_addGap 54 = .ok (.iload 6, 2) := by decide +kernel
theorem dX3_addGap_56 : decode cX3_addGap 56 = .ok (.iload 5, 2) := by decide +kernel
theorem dX3_addGap_58 : decode cX3_addGap 58 = .ok (.bastore, 1) := by decide +kernel
theorem dX3_addGap_59 : decode cX3_addGap 59 = .ok (.aload_n 0, 1) := by decide +kernel
theorem dX3_addGap_60 : decode cX3_addGap 60 = .ok (.dup, 1) := by decide +kernel
theorem dX3_addGap_61 : decode cX3_addGap 61 = .ok (.getfield 51, 3) := by decide +kernel
theorem dX3_addGap_64 : decode cX3_addGap 64 = .ok (.iconst 1, 1) := by decide +kernel
theorem dX3_addGap_65 : decode cX3_addGap 65 = .ok (.iadd, 1) := by decide +kernel
theorem dX3_addGap_66 : decode cX3_addGap 66 = .ok (.putfield 51, 3) := by decide +kernel
theorem dX3_addGap_69 : decode cX3_addGap 69 = .ok (.iload 6, 2) := by decide +kernel
theorem dX3_addGap_71 : decode cX3_addGap 71 = .ok (.ireturn, 1) := by decide +kernel
theorem dX3_removeGap_0 : decode cX3_removeGap 0 = .ok (.iload_n 1, 1) := by decide +kernel
theorem dX3_removeGap_1 : decode cX3_removeGap 1 = .ok (.istore_n 2, 1) := by decide +kernel
theorem dX3_removeGap_2 : decode cX3_removeGap 2 = .ok (.iload_n 2, 1) := by decide +kernel
theorem dX3_removeGap_3 : decode cX3_removeGap 3 = .ok (.iconst 1, 1) := by decide +kernel
theorem dX3_removeGap_4 : decode cX3_removeGap 4 = .ok (.iadd, 1) := by decide +kernel
theorem dX3_removeGap_5 : decode cX3_removeGap 5 = .ok (.aload_n 0, 1) := by decide +kernel
theorem dX3_removeGap_6 : decode cX3_removeGap 6 = .ok (.getfield 51, 3) := by decide +kernel
theorem dX3_removeGap_9 : decode cX3_removeGap 9 = .ok (.if_icmp .ge 79, 3) := by decide +kernel
theorem dX3_removeGap_12 : decode cX3_removeGap 12 = .ok (.aload_n 0, 1) := by decide +kernel
theorem dX3_removeGap_13 : decode cX3_removeGap 13 = .ok (.getfield 21, 3) := by decide +kernel
theorem dX3_removeGap_16 : decode cX3_removeGap 16 = .ok (.iload_n 2, 1) := by decide +kernel
theorem dX3_removeGap_17 : decode cX3_removeGap 17 = .ok (.aload_n 0, 1) := by decide +kernel
theorem dX3_removeGap_18 : decode cX3_removeGap 18 = .ok (.getfield 21, 3) := by decide +kernel
theorem dX3_removeGap_21 : decode cX3_removeGap 21 = .ok (.iload_n 2, 1) := by decide +kernel
theorem dX3_removeGap_22 : decode cX3_removeGap 22 = .ok (.iconst 1, 1) := by decide +kernel
theorem dX3_removeGap_23 : decode cX3_removeGap 23 = .ok (.iadd, 1) := by decide +kernel
theorem dX3_removeGap_24 : decode cX3_removeGap 24 = .ok (.iaload, 1) := by decide +kernel
theorem dX3_removeGap_25 : decode cX3_removeGap 25 = .ok (.iastore, 1) := by decide +kernel
theorem dX3_removeGap_26 : decode cX3_removeGap 26 = .ok (.aload_n 0, 1) := by decide +kernel
theorem dX3_removeGap_27 : decode cX3_removeGap 27 = .ok (.getfield 24, 3) := by decide +kernel
theorem dX3_removeGap_30 : decode cX3_removeGap 30 = .ok (.iload_n 2, 1) := by decide +kernel
theorem dX3_removeGap_31 : decode cX3_removeGap 31 = .ok (.aload_n 0, 1) := by decide +kernel
theorem dX3_removeGap_32 : decode cX3_removeGap 32 = .ok (.getfield 24, 3) := by decide +kernel
theorem dX3_removeGap_35 : decode cX3_removeGap 35 = .ok (.iload_n 2, 1) := by decide +kernel
theorem dX3_removeGap_36 : decode cX3_removeGap 36 = .ok (.iconst 1, 1) := by decide +kernel
theorem dX3_removeGap_37 : decode cX3_removeGap 37 = .ok (.iadd, 1) := by decide +kernel
theorem dX3_removeGap_38 : decode cX3_removeGap 38 = .ok (.iaload, 1) := by decide +kernel
theorem dX3_removeGap_39 : decode cX3_removeGap 39 = .ok (.iastore, 1) := by decide +kernel
theorem dX3_removeGap_40 : decode cX3_removeGap 40 = .ok (.aload_n 0, 1) := by decide +kernel
theorem dX3_removeGap_41 : decode cX3_removeGap 41 = .ok (.getfield 27, 3) := by decide +kernel
theorem dX3_removeGap_44 : decode cX3_removeGap 44 = .ok (.iload_n 2, 1) := by decide +kernel
theorem dX3_removeGap_45 : decode cX3_removeGap 45 = .ok (.aload_n 0, 1) := by decide +kernel
theorem dX3_removeGap_46 : decode cX3_removeGap 46 = .ok (.getfield 27, 3) := by decide +kernel
theorem dX3_removeGap_49 : decode cX3_removeGap 49 = .ok (.iload_n 2, 1) := by decide +kernel
theorem dX3_removeGap_50 : decode cX3_removeGap 50 = .ok (.iconst 1, 1) := by decide +kernel
theorem dX3_removeGap_51 : decode cX3_removeGap 51 = .ok (.iadd, 1) := by decide +kernel
theorem dX3_removeGap_52 : decode cX3_removeGap 52 = .ok (.iaload, 1) := by decide +kernel
theorem dX3_removeGap_53 : decode cX3_removeGap 53 = .ok (.iastore, 1) := by decide +kernel
theorem dX3_removeGap_54 : decode cX3_removeGap 54 = .ok (.aload_n 0, 1) := by decide +kernel
theorem dX3_removeGap_55 : decode cX3_removeGap 55 = .ok (.getfield 30, 3) := by decide +kernel
theorem dX3_removeGap_58 : decode cX3_removeGap 58 = .ok (.iload_n 2, 1) := by decide +kernel
theorem dX3_removeGap_59 : decode cX3_removeGap 59 = .ok (.aload_n 0, 1) := by decide +kernel
theorem dX3_removeGap_60 : decode cX3_removeGap 60 = .ok (.getfield 30, 3) := by decide +kernel
theorem dX3_removeGap_63 : decode cX3_removeGap 63 = .ok (.iload_n 2, 1) := by decide +kernel
theorem dX3_removeGap_64 : decode cX3_removeGap 64 = .ok (.iconst 1, 1) := by decide +kernel
theorem dX3_removeGap_65 : decode cX3_removeGap 65 = .ok (.iadd, 1) := by decide +kernel
theorem dX3_removeGap_66 : decode cX3_removeGap 66 = .ok (.iaload, 1) := by decide +kernel
theorem dX3_removeGap_67 : decode cX3_removeGap 67 = .ok (.iastore, 1) := by decide +kernel
theorem dX3_removeGap_68 : decode cX3_removeGap 68 = .ok (.aload_n 0, 1) := by decide +kernel
theorem dX3_removeGap_69 : decode cX3_removeGap 69 = .ok (.getfield 33, 3) := by decide +kernel
theorem dX3_removeGap_72 : decode cX3_removeGap 72 = .ok (.iload_n 2, 1) := by decide +kernel
theorem dX3_removeGap_73 : decode cX3_removeGap 73 = .ok (.aload_n 0, 1) := by decide +kernel
theorem dX3_removeGap_74 : decode cX3_removeGap 74 = .ok (.getfield 33, 3) := by decide +kernel
theorem dX3_removeGap_77 : decode cX3_removeGap 77 = .ok (.iload_n 2, 1) := by decide +kernel
theorem dX3_removeGap_78 : decode cX3_removeGap 78 = .ok (.iconst 1, 1) := by decide +kernel
theorem dX3_removeGap_79 : decode cX3_removeGap 79 = .ok (.iadd, 1) := by decide +kernel
theorem dX3_removeGap_80 : decode cX3_removeGap 80 = .ok (.baload, 1) := by decide +kernel
theorem dX3_removeGap_81 : decode cX3_removeGap 81 = .ok (.bastore, 1) := by decide +kernel
theorem dX3_removeGap_82 : decode cX3_removeGap 82 = .ok (.iinc 2 1, 3) := by decide +kernel
theorem dX3_removeGap_85 : decode cX3_removeGap 85 = .ok (.goto (-83), 3) := by decide +kernel
theorem dX3_removeGap_88 : decode cX3_removeGap 88 = .ok (.aload_n 0, 1) := by decide +kernel
theorem dX3_removeGap_89 : decode cX3_removeGap 89 = .ok (.dup, 1) := by decide +kernel
theorem dX3_removeGap_90 : decode cX3_removeGap 90 = .ok (.getfield 51, 3) := by decide +kernel
theorem dX3_removeGap_93 : decode cX3_removeGap 93 = .ok (.iconst 1, 1) := by decide +kernel
theorem dX3_removeGap_94 : decode cX3_removeGap 94 = .ok (.isub, 1) := by decide +kernel
theorem dX3_removeGap_95 : decode cX3_removeGap 95 = .ok (.putfield 51, 3) := by decide +kernel
theorem dX3_removeGap_98 : decode cX3_removeGap 98 = .ok (.return_, 1) := by decide +kernel
theorem dX3_isPinned_0 : decode cX3_isPinned 0 = .ok (.aload_n 0, 1) := by decide +kernel
theorem dX3_isPinned_1 : decode cX3_isPinned 1 = .ok (.getfield 18, 3) := by decide +kernel
theorem dX3_isPinned_4 : decode cX3_isPinned 4 = .ok (.iload_n 1, 1) := by decide +kernel
theorem dX3_isPinned_5 : decode cX3_isPinned 5 = .ok (.iaload, 1) := by decide +kernel
theorem dX3_isPinned_6 : decode cX3_isPinned 6 = .ok (.iconst (-1), 1) := by decide +kernel
theorem dX3_isPinned_7 : decode cX3_isPinned 7 = .ok (.if_icmp .eq 7, 3) := by decide +kernel
theorem dX3_isPinned_10 : decode cX3_isPinned 10 = .ok (.iconst 1, 1) := by decide +kernel
theorem dX3_isPinned_11 : decode cX3_isPinned 11 = .ok (.goto 4, 3) := by decide +kernel
theorem dX3_isPinned_14 : decode cX3_isPinned 14 = .ok (.iconst 0, 1) := by decide +kernel
theorem dX3_isPinned_15 : decode cX3_isPinned 15 = .ok (.ireturn, 1) := by decide +kernel
theorem dX3_hasEvent_0 : decode cX3_hasEvent 0 = .ok (.aload_n 0, 1) := by decide +kernel
theorem dX3_hasEvent_1 : decode cX3_hasEvent 1 = .ok (.getfield 21, 3) := by decide +kernel
theorem dX3_hasEvent_4 : decode cX3_hasEvent 4 = .ok (.iload_n 1, 1) := by decide +kernel
theorem dX3_hasEvent_5 : decode cX3_hasEvent 5 = .ok (.iaload, 1) := by decide +kernel
theorem dX3_hasEvent_6 : decode cX3_hasEvent 6 = .ok (.iload_n 2, 1) := by decide +kernel
theorem dX3_hasEvent_7 : decode cX3_hasEvent 7 = .ok (.if_icmp .eq 13, 3) := by decide +kernel
theorem dX3_hasEvent_10 : decode cX3_hasEvent 10 = .ok (.aload_n 0, 1) := by decide +kernel
theorem dX3_hasEvent_11 : decode cX3_hasEvent 11 = .ok (.getfield 24, 3) := by decide +kernel
theorem dX3_hasEvent_14 : decode cX3_hasEvent 14 = .ok (.iload_n 1, 1) := by decide +kernel
theorem dX3_hasEvent_15 : decode cX3_hasEvent 15 = .ok (.iaload, 1) := by decide +kernel
theorem dX3_hasEvent_16 : decode cX3_hasEvent 16 = .ok (.iload_n 2, 1) := by decide +kernel
theorem dX3_hasEvent_17 : decode cX3_hasEvent 17 = .ok (.if_icmp .ne 7, 3) := by decide +kernel
theorem dX3_hasEvent_20 : decode cX3_hasEvent 20 = .ok (.iconst 1, 1) := by decide +kernel
theorem dX3_hasEvent_21 : decode cX3_hasEvent 21 = .ok (.goto 4, 3) := by decide +kernel
theorem dX3_hasEvent_24 : decode cX3_hasEvent 24 = .ok (.iconst 0, 1) := by decide +kernel
theorem dX3_hasEvent_25 : decode cX3_hasEvent 25 = .ok (.ireturn, 1) := by decide +kernel
theorem dX3_countPinned_0 : decode cX3_countPinned 0 = .ok (.iconst 0, 1) := by decide +kernel
theorem dX3_countPinned_1 : decode cX3_countPinned 1 = .ok (.istore_n 1, 1) := by decide +kernel
theorem dX3_countPinned_2 : decode cX3_countPinned 2 = .ok (.iconst 0, 1) := by decide +kernel
theorem dX3_countPinned_3 : decode cX3_countPinned 3 = .ok (.istore_n 2, 1) := by decide +kernel
theorem dX3_countPinned_4 : decode cX3_countPinned 4 = .ok (.iload_n 2, 1) := by decide +kernel
theorem dX3_countPinned_5 : decode cX3_countPinned 5 = .ok (.aload_n 0, 1) := by decide +kernel
theorem dX3_countPinned_6 : decode cX3_countPinned 6 = .ok (.getfield 48, 3) := by decide +kernel
theorem dX3_countPinned_9 : decode cX3_countPinned 9 = .ok (.if_icmp .ge 20, 3) := by decide +kernel
theorem dX3_countPinned_12 : decode cX3_countPinned 12 = .ok (.iload_n 1, 1) := by decide +kernel
theorem dX3_countPinned_13 : decode cX3_countPinned 13 = .ok (.aload_n 0, 1) := by decide +kernel
theorem dX3_countPinned_14 : decode cX3_countPinned 14 = .ok (.iload_n 2, 1) := by decide +kernel
theorem dX3_countPinned_15 : decode cX3_countPinned 15 = .ok (.invokevirtual 105, 3) := by decide +kernel
theorem dX3_countPinned_18 : decode cX3_countPinned 18 = .ok (.invokestatic 109, 3) := by decide +kernel
theorem dX3_countPinned_21 : decode cX3_countPinned 21 = .ok (.iadd, 1) := by decide +kernel
theorem dX3_countPinned_22 : decode cX3_countPinned 22 = .ok (.istore_n 1, 1) := by decide +kernel
theorem dX3_countPinned_23 : decode cX3_countPinned 23 = .ok (.iinc 2 1, 3) := by decide +kernel
theorem dX3_countPinned_26 : decode cX3_countPinned 26 = .ok (.goto (-22), 3) := by decide +kernel
theorem dX3_countPinned_29 : decode cX3_countPinned 29 = .ok (.iload_n 1, 1) := by decide +kernel
theorem dX3_countPinned_30 : decode cX3_countPinned 30 = .ok (.ireturn, 1) := by decide +kernel
theorem dX3_countOn_0 : decode cX3_countOn 0 = .ok (.iconst 0, 1) := by decide +kernel
theorem dX3_countOn_1 : decode cX3_countOn 1 = .ok (.istore_n 1, 1) := by decide +kernel
theorem dX3_countOn_2 : decode cX3_countOn 2 = .ok (.iconst 0, 1) := by decide +kernel
theorem dX3_countOn_3 : decode cX3_countOn 3 = .ok (.istore_n 2, 1) := by decide +kernel
theorem dX3_countOn_4 : decode cX3_countOn 4 = .ok (.iload_n 2, 1) := by decide +kernel
theorem dX3_countOn_5 : decode cX3_countOn 5 = .ok (.aload_n 0, 1) := by decide +kernel
theorem dX3_countOn_6 : decode cX3_countOn 6 = .ok (.getfield 51, 3) := by decide +kernel
theorem dX3_countOn_9 : decode cX3_countOn 9 = .ok (.if_icmp .ge 21, 3) := by decide +kernel
theorem dX3_countOn_12 : decode cX3_countOn 12 = .ok (.iload_n 1, 1) := by decide +kernel
theorem dX3_countOn_13 : decode cX3_countOn 13 = .ok (.aload_n 0, 1) := by decide +kernel
theorem dX3_countOn_14 : decode cX3_countOn 14 = .ok (.getfield 33, 3) := by decide +kernel
theorem dX3_countOn_17 : decode cX3_countOn 17 = .ok (.iload_n 2, 1) := by decide +kernel
theorem dX3_countOn_18 : decode cX3_countOn 18 = .ok (.baload, 1) := by decide +kernel
theorem dX3_countOn_19 : decode cX3_countOn 19 = .ok (.invokestatic 109, 3) := by decide +kernel
theorem dX3_countOn_22 : decode cX3_countOn 22 = .ok (.iadd, 1) := by decide +kernel
theorem dX3_countOn_23 : decode cX3_countOn 23 = .ok (.istore_n 1, 1) := by decide +kernel
theorem dX3_countOn_24 : decode cX3_countOn 24 = .ok (.iinc 2 1, 3) := by decide +kernel
theorem dX3_countOn_27 : decode cX3_countOn 27 = .ok (.goto (-23), 3) := by decide +kernel
theorem dX3_countOn_30 : decode cX3_countOn 30 = .ok (.iload_n 1, 1) := by decide +kernel
theorem dX3_countOn_31 : decode cX3_countOn 31 = .ok (.ireturn, 1) := by decide +kernel
theorem dX3_countOnOf_0 : decode cX3_countOnOf 0 = .ok (.iconst 0, 1) := by decide +kernel
theorem dX3_countOnOf_1 : decode cX3_countOnOf 1 = .ok (.istore_n 2, 1) := by decide +kernel
theorem dX3_countOnOf_2 : decode cX3_countOnOf 2 = .ok (.iconst 0, 1) := by decide +kernel
theorem dX3_countOnOf_3 : decode cX3_countOnOf 3 = .ok (.istore_n 3, 1) := by decide +kernel
theorem dX3_countOnOf_4 : decode cX3_countOnOf 4 = .ok (.iload_n 3, 1) := by decide +kernel
theorem dX3_countOnOf_5 : decode cX3_countOnOf 5 = .ok (.aload_n 0, 1) := by decide +kernel
theorem dX3_countOnOf_6 : decode cX3_countOnOf 6 = .ok (.getfield 51, 3) := by decide +kernel
theorem dX3_countOnOf_9 : decode cX3_countOnOf 9 = .ok (.if_icmp .ge 38, 3) := by decide +kernel
theorem dX3_countOnOf_12 : decode cX3_countOnOf 12 = .ok (.iload_n 2, 1) := by decide +kernel
theorem dX3_countOnOf_13 : decode cX3_countOnOf 13 = .ok (.aload_n 0, 1) := by decide +kernel
theorem dX3_countOnOf_14 : decode cX3_countOnOf 14 = .ok (.getfield 33, 3) := by decide +kernel
theorem dX3_countOnOf_17 : decode cX3_countOnOf 17 = .ok (.iload_n 3, 1) := by decide +kernel
theorem dX3_countOnOf_18 : decode cX3_countOnOf 18 = .ok (.baload, 1) := by decide +kernel
theorem dX3_countOnOf_19 : decode cX3_countOnOf 19 = .ok (.ifCond .eq 16, 3) := by decide +kernel
theorem dX3_countOnOf_22 : decode cX3_countOnOf 22 = .ok (.aload_n 0, 1) := by decide +kernel
theorem dX3_countOnOf_23 : decode cX3_countOnOf 23 = .ok (.iload_n 3, 1) := by decide +kernel
theorem dX3_countOnOf_24 : decode cX3_countOnOf 24 = .ok (.iload_n 1, 1) := by decide +kernel
theorem dX3_countOnOf_25 : decode cX3_countOnOf 25 = .ok (.invokevirtual 113, 3) := by decide +kernel
theorem dX3_countOnOf_28 : decode cX3_countOnOf 28 = .ok (.ifCond .eq 7, 3) := by decide +kernel
theorem dX3_countOnOf_31 : decode cX3_countOnOf 31 = .ok (.iconst 1, 1) := by decide +kernel
theorem dX3_countOnOf_32 : decode cX3_countOnOf 32 = .ok (.goto 4, 3) := by decide +kernel
theorem dX3_countOnOf_35 : decode cX3_countOnOf 35 = .ok (.iconst 0, 1) := by decide +kernel
theorem dX3_countOnOf_36 : decode cX3_countOnOf 36 = .ok (.invokestatic 109, 3) := by decide +kernel
theorem dX3_countOnOf_39 : decode cX3_countOnOf 39 = .ok (.iadd, 1) := by decide +kernel
theorem dX3_countOnOf_40 : decode cX3_countOnOf 40 = .ok (.istore_n 2, 1) := by decide +kernel
theorem dX3_countOnOf_41 : decode cX3_countOnOf 41 = .ok (.iinc 3 1, 3) := by decide +kernel
theorem dX3_countOnOf_44 : decode cX3_countOnOf 44 = .ok (.goto (-40), 3) := by decide +kernel
theorem dX3_countOnOf_47 : decode cX3_countOnOf 47 = .ok (.iload_n 2, 1) := by decide +kernel
theorem dX3_countOnOf_48 : decode cX3_countOnOf 48 = .ok (.ireturn, 1) := by decide +kernel
theorem dX4_init_0 : decode cX4_init 0 = .ok (.aload_n 0, 1) := by decide +kernel
theorem dX4_init_1 : decode cX4_init 1 = .ok (.invokespecial 3, 3) := by decide +kernel
theorem dX4_init_4 : decode cX4_init 4 = .ok (.aload_n 0, 1) := by decide +kernel
theorem dX4_init_5 : decode cX4_init 5 = .ok (.new 9, 3) := by decide +kernel
theorem dX4_init_8 : decode cX4_init 8 = .ok (.dup, 1) := by decide +kernel
theorem dX4_init_9 : decode cX4_init 9 = .ok (.invokespecial 11, 3) := by decide +kernel
theorem dX4_init_12 : decode cX4_init 12 = .ok (.putfield 12, 3) := by decide +kernel
theorem dX4_init_15 : decode cX4_init 15 = .ok (.aload_n 0, 1) := by decide +kernel
theorem dX4_init_16 : decode cX4_init 16 = .ok (.new 18, 3) := by decide +kernel
theorem dX4_init_19 : decode cX4_init 19 = .ok (.dup, 1) := by decide +kernel
theorem dX4_init_20 : decode cX4_init 20 = .ok (.invokespecial 20, 3) := by decide +kernel
theorem dX4_init_23 : decode cX4_init 23 = .ok (.putfield 21, 3) := by decide +kernel
theorem dX4_init_26 : decode cX4_init 26 = .ok (.aload_n 0, 1) := by decide +kernel
theorem dX4_init_27 : decode cX4_init 27 = .ok (.new 25, 3) := by decide +kernel
theorem dX4_init_30 : decode cX4_init 30 = .ok (.dup, 1) := by decide +kernel
theorem dX4_init_31 : decode cX4_init 31 = .ok (.invokespecial 27, 3) := by decide +kernel
theorem dX4_init_34 : decode cX4_init 34 = .ok (.putfield 28, 3) := by decide +kernel
theorem dX4_init_37 : decode cX4_init 37 = .ok (.return_, 1) := by decide +kernel
theorem dX4_read_0 : decode cX4_read 0 = .ok (.aload_n 0, 1) := by decide +kernel
theorem dX4_read_1 : decode cX4_read 1 = .ok (.getfield 21, 3) := by decide +kernel
theorem dX4_read_4 : decode cX4_read 4 = .ok (.invokevirtual 32, 3) := by decide +kernel
theorem dX4_read_7 : decode cX4_read 7 = .ok (.aload_n 0, 1) := by decide +kernel
theorem dX4_read_8 : decode cX4_read 8 = .ok (.iconst 0, 1) := by decide +kernel
theorem dX4_read_9 : decode cX4_read 9 = .ok (.putfield 35, 3) := by decide +kernel
theorem dX4_read_12 : decode cX4_read 12 = .ok (.aload_n 0, 1) := by decide +kernel
theorem dX4_read_13 : decode cX4_read 13 = .ok (.iconst 0, 1) := by decide +kernel
theorem dX4_read_14 : decode cX4_read 14 = .ok (.putfield 39, 3) := by decide +kernel
theorem dX4_read_17 : decode cX4_read 17 = .ok (.aload_n 0, 1) := by decide +kernel
theorem dX4_read_18 : decode cX4_read 18 = .ok (.invokevirtual 42, 3) := by decide +kernel
theorem dX4_read_21 : decode cX4_read 21 = .ok (.aload_n 0, 1) := by decide +kernel
theorem dX4_read_22 : decode cX4_read 22 = .ok (.invokevirtual 45, 3) := by decide +kernel
theorem dX4_read_25 : decode cX4_read 25 = .ok (.ifCond .ne 5, 3) := by decide +kernel
theorem dX4_read_28 : decode cX4_read 28 = .ok (.iconst 0, 1) := by decide +kernel
theorem dX4_read_29 : decode cX4_read 29 = .ok (.ireturn, 1) := by decide +kernel
theorem dX4_read_30 : decode cX4_read 30 = .ok (.iconst 0, 1) := by decide +kernel
theorem dX4_read_31 : decode cX4_read 31 = .ok (.istore_n 1, 1) := by decide +kernel
theorem dX4_read_32 : decode cX4_read 32 = .ok (.iload_n 1, 1) := by decide +kernel
theorem dX4_read_33 : decode cX4_read 33 = .ok (.bipush 10, 2) := by decide +kernel
theorem dX4_read_35 : decode cX4_read 35 = .ok (.if_icmp .ge 27, 3) := by decide +kernel
theorem dX4_read_38 : decode cX4_read 38 = .ok (.aload_n 0, 1) := by decide +kernel
theorem dX4_read_39 : decode cX4_read 39 = .ok (.ldc 49, 2) := by decide +kernel
theorem dX4_read_41 : decode cX4_read 41 = .ok (.invokevirtual 51, 3) := by decide +kernel
theorem dX4_read_44 : decode cX4_read 44 = .ok (.ifCond .eq 18, 3) := by decide +kernel
theorem dX4_read_47 : decode cX4_read 47 = .ok (.aload_n 0, 1) := by decide +kernel
theorem dX4_read_48 : decode cX4_read 48 = .ok (.invokevirtual 55, 3) := by decide +kernel
theorem dX4_read_51 : decode cX4_read 51 = .ok (.ifCond .ne 5, 3) := by decide +kernel
theorem dX4_read_54 : decode cX4_read 54 = .ok (.iconst 0, 1) := by decide +kernel
theorem dX4_read_55 : decode cX4_read 55 = .ok (.ireturn, 1) := by decide +kernel
theorem dX4_read_56 : decode cX4_read 56 = .ok (.iinc 1 1, 3) := by decide +kernel
theorem dX4_read_59 : decode cX4_read 59 = .ok (.goto (-27), 3) := by decide +kernel
theorem dX4_read_62 : decode cX4_read 62 = .ok (.aload_n 0, 1) := by decide +kernel
theorem dX4_read_63 : decode cX4_read 63 = .ok (.getfield 28, 3) := by decide +kernel
theorem dX4_read_66 : decode cX4_read 66 = .ok (.aload_n 0, 1) := by decide +kernel
theorem dX4_read_67 : decode cX4_read 67 = .ok (.getfield 21, 3) := by decide +kernel
theorem dX4_read_70 : decode cX4_read 70 = .ok (.iconst (-1), 1) := by decide +kernel
theorem dX4_read_71 : decode cX4_read 71 = .ok (.invokevirtual 58, 3) := by decide +kernel
theorem dX4_read_74 : decode cX4_read 74 = .ok (.iconst 0, 1) := by decide +kernel
theorem dX4_read_75 : decode cX4_read 75 = .ok (.istore_n 1, 1) := by decide +kernel
theorem dX4_read_76 : decode cX4_read 76 = .ok (.iload_n 1, 1) := by decide +kernel
theorem dX4_read_77 : decode cX4_read 77 = .ok (.bipush 24, 2) := by decide +kernel
theorem dX4_read_79 : decode cX4_read 79 = .ok (.if_icmp .gt 27, 3) := by decide +kernel
theorem dX4_read_82 : decode cX4_read 82 = .ok (.aload_n 0, 1) := by decide +kernel
theorem dX4_read_83 : decode cX4_read 83 = .ok (.ldc 62, 2) := by decide +kernel
theorem dX4_read_85 : decode cX4_read 85 = .ok (.invokevirtual 51, 3) := by decide +kernel
theorem dX4_read_88 : decode cX4_read 88 = .ok (.ifCond .eq 18, 3) := by decide +kernel
theorem dX4_read_91 : decode cX4_read 91 = .ok (.aload_n 0, 1) := by decide +kernel
theorem dX4_read_92 : decode cX4_read 92 = .ok (.invokevirtual 64, 3) := by decide +kernel
theorem dX4_read_95 : decode cX4_read 95 = .ok (.ifCond .ne 5, 3) := by decide +kernel
theorem dX4_read_98 : decode cX4_read 98 = .ok (.iconst 0, 1) := by decide +kernel
theorem dX4_read_99 : decode cX4_read 99 = .ok (.ireturn, 1) := by decide +kernel
theorem dX4_read_100 : decode cX4_read 100 = .ok (.iinc 1 1, 3) := by decide +kernel
theorem dX4_read_103 : decode cX4_read 103 = .ok (.goto (-27), 3) := by decide +kernel
theorem dX4_read_106 : decode cX4_read 106 = .ok (.iconst 0, 1) := by decide +kernel
theorem dX4_read_107 : decode cX4_read 107 = .ok (.istore_n 1, 1) := by decide +kernel
theorem dX4_read_108 : decode cX4_read 108 = .ok (.iload_n 1, 1) := by decide +kernel
theorem dX4_read_109 : decode cX4_read 109 = .ok (.bipush 10, 2) := by decide +kernel
theorem dX4_read_111 : decode cX4_read 111 = .ok (.if_icmp .ge 27, 3) := by decide +kernel
theorem dX4_read_114 : decode cX4_read 114 = .ok (.aload_n 0, 1) := by decide +kernel
theorem dX4_read_115 : decode cX4_read 115 = .ok (.ldc 67, 2) := by decide +kernel
theorem dX4_read_117 : decode cX4_read 117 = .ok (.invokevirtual 51, 3) := by decide +kernel
theorem dX4_read_120 : decode cX4_read 120 = .ok (.ifCond .eq 18, 3) := by decide +kernel
theorem dX4_read_123 : decode cX4_read 123 = .ok (.aload_n 0, 1) := by decide +kernel
theorem dX4_read_124 : decode cX4_read 124 = .ok (.invokevirtual 69, 3) := by decide +kernel
theorem dX4_read_127 : decode cX4_read 127 = .ok (.ifCond .ne 5, 3) := by decide +kernel
theorem dX4_read_130 : decode cX4_read 130 = .ok (.iconst 0, 1) := by decide +kernel
theorem dX4_read_131 : decode cX4_read 131 = .ok (.ireturn, 1) := by decide +kernel
theorem dX4_read_132 : decode cX4_read 132 = .ok (.iinc 1 1, 3) := by decide +kernel
theorem dX4_read_135 : decode cX4_read 135 = .ok (.goto (-27), 3) := by decide +kernel
theorem dX4_read_138 : decode cX4_read 138 = .ok (.aload_n 0, 1) := by decide +kernel
theorem dX4_read_139 : decode cX4_read 139 = .ok (.getfield 72, 3) := by decide +kernel
theorem dX4_read_142 : decode cX4_read 142 = .ok (.ifCond .ne 7, 3) := by decide +kernel
theorem dX4_read_145 : decode cX4_read 145 = .ok (.iconst 1, 1) := by decide +kernel
theorem dX4_read_146 : decode cX4_read 146 = .ok (.goto 4, 3) := by decide +kernel
theorem dX4_read_149 : decode cX4_read 149 = .ok (.iconst 0, 1) := by decide +kernel
theorem dX4_read_150 : decode cX4_read 150 = .ok (.ireturn, 1) := by decide +kernel
theorem dX4_position_0 : decode cX4_position 0 = .ok (.aload_n 0, 1) := by decide +kernel
theorem dX4_position_1 : decode cX4_position 1 = .ok (.getfield 35, 3) := by decide +kernel
theorem dX4_position_4 : decode cX4_position 4 = .ok (.ireturn, 1) := by decide +kernel
theorem dX4_next_0 : decode cX4_next 0 = .ok (.aload_n 0, 1) := by decide +kernel
theorem dX4_next_1 : decode cX4_next 1 = .ok (.dup, 1) := by decide +kernel
theorem dX4_next_2 : decode cX4_next 2 = .ok (.getfield 35, 3) := by decide +kernel
theorem dX4_next_5 : decode cX4_next 5 = .ok (.aload_n 0, 1) := by decide +kernel
theorem dX4_next_6 : decode cX4_next 6 = .ok (.getfield 39, 3) := by decide +kernel
theorem dX4_next_9 : decode cX4_next 9 = .ok (.iadd, 1) := by decide +kernel
theorem dX4_next_10 : decode cX4_next 10 = .ok (.putfield 35, 3) := by decide +kernel
theorem dX4_next_13 : decode cX4_next 13 = .ok (.aload_n 0, 1) := by decide +kernel
theorem dX4_next_14 : decode cX4_next 14 = .ok (.dup, 1) := by decide +kernel
theorem dX4_next_15 : decode cX4_next 15 = .ok (.getfield 35, 3) := by decide +kernel
theorem dX4_next_18 : decode cX4_next 18 = .ok (.aload_n 0, 1) := by decide +kernel
theorem dX4_next_19 : decode cX4_next 19 = .ok (.getfield 12, 3) := by decide +kernel
theorem dX4_next_22 : decode cX4_next 22 = .ok (.aload_n 0, 1) := by decide +kernel
theorem dX4_next_23 : decode cX4_next 23 = .ok (.getfield 35, 3) := by decide +kernel
theorem dX4_next_26 : decode cX4_next 26 = .ok (.invokevirtual 75, 3) := by decide +kernel
theorem dX4_next_29 : decode cX4_next 29 = .ok (.iadd, 1) := by decide +kernel
theorem dX4_next_30 : decode cX4_next 30 = .ok (.putfield 35, 3) := by decide +kernel
theorem dX4_next_33 : decode cX4_next 33 = .ok (.aload_n 0, 1) := by decide +kernel
theorem dX4_next_34 : decode cX4_next 34 = .ok (.getfield 12, 3) := by decide +kernel
theorem dX4_next_37 : decode cX4_next 37 = .ok (.aload_n 0, 1) := by decide +kernel
theorem dX4_next_38 : decode cX4_next 38 = .ok (.getfield 35, 3) := by decide +kernel
theorem dX4_next_41 : decode cX4_next 41 = .ok (.invokevirtual 79, 3) := by decide +kernel
theorem dX4_next_44 : decode cX4_next 44 = .ok (.istore_n 1, 1) := by decide +kernel
theorem dX4_next_45 : decode cX4_next 45 = .ok (.iload_n 1, 1) := by decide +kernel
theorem dX4_next_46 : decode cX4_next 46 = .ok (.iconst (-1), 1) := by decide +kernel
theorem dX4_next_47 : decode cX4_next 47 = .ok (.if_icmp .ne 16, 3) := by decide +kernel
theorem dX4_next_50 : decode cX4_next 50 = .ok (.aload_n 0, 1) := by decide +kernel
theorem dX4_next_51 : decode cX4_next 51 = .ok (.iconst 0, 1) := by decide +kernel
theorem dX4_next_52 : decode cX4_next 52 = .ok (.putfield 72, 3) := by decide +kernel
theorem dX4_next_55 : decode cX4_next 55 = .ok (.aload_n 0, 1) := by decide +kernel
theorem dX4_next_56 : decode cX4_next 56 = .ok (.iconst 0, 1) := by decide +kernel
theorem dX4_next_57 : decode cX4_next 57 = .ok (.putfield 39, 3) := by decide +kernel
theorem dX4_next_60 : decode cX4_next 60 = .ok (.goto 107, 3) := by decide +kernel
theorem dX4_next_63 : decode cX4_next 63 = .ok (.iload_n 1, 1) := by decide +kernel
theorem dX4_next_64 : decode cX4_next 64 = .ok (.invokestatic 82, 3) := by decide +kernel
theorem dX4_next_67 : decode cX4_next 67 = .ok (.ifCond .eq 38, 3) := by decide +kernel
theorem dX4_next_70 : decode cX4_next 70 = .ok (.aload_n 0, 1) := by decide +kernel
theorem dX4_next_71 : decode cX4_next 71 = .ok (.aload_n 0, 1) := by decide +kernel
theorem dX4_next_72 : decode cX4_next 72 = .ok (.getfield 12, 3) := by decide +kernel
theorem dX4_next_75 : decode cX4_next 75 = .ok (.aload_n 0, 1) := by decide +kernel
theorem dX4_next_76 : decode cX4_next 76 = .ok (.getfield 35, 3) := by decide +kernel
theorem dX4_next_79 : decode cX4_next 79 = .ok (.invokevirtual 86, 3) := by decide +kernel
theorem dX4_next_82 : decode cX4_next 82 = .ok (.putfield 39, 3) := by decide +kernel
theorem dX4_next_85 : decode cX4_next 85 = .ok (.aload_n 0, 1) := by decide +kernel
theorem dX4_next_86 : decode cX4_next 86 = .ok (.aload_n 0, 1) := by decide +kernel
theorem dX4_next_87 : decode cX4_next 87 = .ok (.getfield 39, 3) := by decide +kernel
theorem dX4_next_90 : decode cX4_next 90 = .ok (.iconst 5, 1) := by decide +kernel
theorem dX4_next_91 : decode cX4_next 91 = .ok (.if_icmp .gt 7, 3) := by decide +kernel
theorem dX4_next_94 : decode cX4_next 94 = .ok (.iconst 2, 1) := by decide +kernel
theorem dX4_next_95 : decode cX4_next 95 = .ok (.goto 4, 3) := by decide +kernel
theorem dX4_next_98 : decode cX4_next 98 = .ok (.iconst 1, 1) := by decide +kernel
theorem dX4_next_99 : decode cX4_next 99 = .ok (.putfield 72, 3) := by decide +kernel
theorem dX4_next_102 : decode cX4_next 102 = .ok (.goto 65, 3) := by decide +kernel
theorem dX4_next_105 : decode cX4_next 105 = .ok (.iload_n 1, 1) := by decide +kernel
theorem dX4_next_106 : decode cX4_next 106 = .ok (.invokestatic 89, 3) := by decide +kernel
theorem dX4_next_109 : decode cX4_next 109 = .ok (.ifCond .eq 38, 3) := by decide +kernel
theorem dX4_next_112 : decode cX4_next 112 = .ok (.aload_n 0, 1) := by decide +kernel
theorem dX4_next_113 : decode cX4_next 113 = .ok (.aload_n 0, 1) := by decide +kernel
theorem dX4_next_114 : decode cX4_next 114 = .ok (.getfield 12, 3) := by decide +kernel
theorem dX4_next_117 : decode cX4_next 117 = .ok (.aload_n 0, 1) := by decide +kernel
theorem dX4_next_118 : decode cX4_next 118 = .ok (.getfield 35, 3) := by decide +kernel
theorem dX4_next_121 : decode cX4_next 121 = .ok (.invokevirtual 92, 3) := by decide +kernel
theorem dX4_next_124 : decode cX4_next 124 = .ok (.putfield 39, 3) := by decide +kernel
theorem dX4_next_127 : decode cX4_next 127 = .ok (.aload_n 0, 1) := by decide +kernel
theorem dX4_next_128 : decode cX4_next 128 = .ok (.aload_n 0, 1) := by decide +kernel
end
section
theorem dX4_next_129 : decode cX4_next 129 = .ok (.getfield 39, 3) := by decide +kernel
theorem dX4_next_132 : decode cX4_next 132 = .ok (.iconst 3, 1) := by decide +kernel
theorem dX4_next_133 : decode cX4_next 133 = .ok (.if_icmp .gt 7, 3) := by decide +kernel
theorem dX4_next_136 : decode cX4_next 136 = .ok (.iconst 3, 1) := by decide +kernel
theorem dX4_next_137 : decode cX4_next 137 = .ok (.goto 4, 3) := by decide +kernel
theorem dX4_next_140 : decode cX4_next 140 = .ok (.iconst 1, 1) := by decide +kernel
theorem dX4_next_141 : decode cX4_next 141 = .ok (.putfield 72, 3) := by decide +kernel
theorem dX4_next_144 : decode cX4_next 144 = .ok (.goto 23, 3) := by decide +kernel
theorem dX4_next_147 : decode cX4_next 147 = .ok (.aload_n 0, 1) := by decide +kernel
theorem dX4_next_148 : decode cX4_next 148 = .ok (.iconst 1, 1) := by decide +kernel
theorem dX4_next_149 : decode cX4_next 149 = .ok (.putfield 39, 3) := by decide +kernel
theorem dX4_next_152 : decode cX4_next 152 = .ok (.aload_n 0, 1) := by decide +kernel
theorem dX4_next_153 : decode cX4_next 153 = .ok (.iload_n 1, 1) := by decide +kernel
theorem dX4_next_154 : decode cX4_next 154 = .ok (.bipush 59, 2) := by decide +kernel
theorem dX4_next_156 : decode cX4_next 156 = .ok (.if_icmp .ne 7, 3) := by decide +kernel
theorem dX4_next_159 : decode cX4_next 159 = .ok (.iconst 4, 1) := by decide +kernel
theorem dX4_next_160 : decode cX4_next 160 = .ok (.goto 4, 3) := by decide +kernel
theorem dX4_next_163 : decode cX4_next 163 = .ok (.iconst 1, 1) := by decide +kernel
theorem dX4_next_164 : decode cX4_next 164 = .ok (.putfield 72, 3) := by decide +kernel
theorem dX4_next_167 : decode cX4_next 167 = .ok (.return_, 1) := by decide +kernel
theorem dX4_isHere_0 : decode cX4_isHere 0 = .ok (.aload_n 0, 1) := by decide +kernel
theorem dX4_isHere_1 : decode cX4_isHere 1 = .ok (.getfield 72, 3) := by decide +kernel
theorem dX4_isHere_4 : decode cX4_isHere 4 = .ok (.iconst 2, 1) := by decide +kernel
theorem dX4_isHere_5 : decode cX4_isHere 5 = .ok (.if_icmp .ne 26, 3) := by decide +kernel
theorem dX4_isHere_8 : decode cX4_isHere 8 = .ok (.aload_n 0, 1) := by decide +kernel
theorem dX4_isHere_9 : decode cX4_isHere 9 = .ok (.getfield 12, 3) := by decide +kernel
theorem dX4_isHere_12 : decode cX4_isHere 12 = .ok (.aload_n 0, 1) := by decide +kernel
theorem dX4_isHere_13 : decode cX4_isHere 13 = .ok (.getfield 35, 3) := by decide +kernel
theorem dX4_isHere_16 : decode cX4_isHere 16 = .ok (.aload_n 0, 1) := by decide +kernel
theorem dX4_isHere_17 : decode cX4_isHere 17 = .ok (.getfield 39, 3) := by decide +kernel
theorem dX4_isHere_20 : decode cX4_isHere 20 = .ok (.aload_n 1, 1) := by decide +kernel
theorem dX4_isHere_21 : decode cX4_isHere 21 = .ok (.invokevirtual 95, 3) := by decide +kernel
theorem dX4_isHere_24 : decode cX4_isHere 24 = .ok (.ifCond .eq 7, 3) := by decide +kernel
theorem dX4_isHere_27 : decode cX4_isHere 27 = .ok (.iconst 1, 1) := by decide +kernel
theorem dX4_isHere_28 : decode cX4_isHere 28 = .ok (.goto 4, 3) := by decide +kernel
theorem dX4_isHere_31 : decode cX4_isHere 31 = .ok (.iconst 0, 1) := by decide +kernel
theorem dX4_isHere_32 : decode cX4_isHere 32 = .ok (.ireturn, 1) := by decide +kernel
theorem dX4_takeWord_0 : decode cX4_takeWord 0 = .ok (.aload_n 0, 1) := by decide +kernel
theorem dX4_takeWord_1 : decode cX4_takeWord 1 = .ok (.aload_n 1, 1) := by decide +kernel
theorem dX4_takeWord_2 : decode cX4_takeWord 2 = .ok (.invokevirtual 51, 3) := by decide +kernel
theorem dX4_takeWord_5 : decode cX4_takeWord 5 = .ok (.istore_n 2, 1) := by decide +kernel
theorem dX4_takeWord_6 : decode cX4_takeWord 6 = .ok (.iload_n 2, 1) := by decide +kernel
theorem dX4_takeWord_7 : decode cX4_takeWord 7 = .ok (.ifCond .eq 7, 3) := by decide +kernel
theorem dX4_takeWord_10 : decode cX4_takeWord 10 = .ok (.aload_n 0, 1) := by decide +kernel
theorem dX4_takeWord_11 : decode cX4_takeWord 11 = .ok (.invokevirtual 42, 3) := by decide +kernel
theorem dX4_takeWord_14 : decode cX4_takeWord 14 = .ok (.iload_n 2, 1) := by decide +kernel
theorem dX4_takeWord_15 : decode cX4_takeWord 15 = .ok (.ireturn, 1) := by decide +kernel
theorem dX4_takeSemicolon_0 : decode cX4_takeSemicolon 0 = .ok (.aload_n 0, 1) := by decide +kernel
theorem dX4_takeSemicolon_1 : decode cX4_takeSemicolon 1 = .ok (.getfield 72, 3) := by decide +kernel
theorem dX4_takeSemicolon_4 : decode cX4_takeSemicolon 4 = .ok (.iconst 4, 1) := by decide +kernel
theorem dX4_takeSemicolon_5 : decode cX4_takeSemicolon 5 = .ok (.if_icmp .ne 7, 3) := by decide +kernel
theorem dX4_takeSemicolon_8 : decode cX4_takeSemicolon 8 = .ok (.iconst 1, 1) := by decide +kernel
theorem dX4_takeSemicolon_9 : decode cX4_takeSemicolon 9 = .ok (.goto 4, 3) := by decide +kernel
theorem dX4_takeSemicolon_12 : decode cX4_takeSemicolon 12 = .ok (.iconst 0, 1) := by decide +kernel
theorem dX4_takeSemicolon_13 : decode cX4_takeSemicolon 13 = .ok (.istore_n 1, 1) := by decide +kernel
theorem dX4_takeSemicolon_14 : decode cX4_takeSemicolon 14 = .ok (.iload_n 1, 1) := by decide +kernel
theorem dX4_takeSemicolon_15 : decode cX4_takeSemicolon 15 = .ok (.ifCond .eq 7, 3) := by decide +kernel
theorem dX4_takeSemicolon_18 : decode cX4_takeSemicolon 18 = .ok (.aload_n 0, 1) := by decide +kernel
theorem dX4_takeSemicolon_19 : decode cX4_takeSemicolon 19 = .ok (.invokevirtual 42, 3) := by decide +kernel
theorem dX4_takeSemicolon_22 : decode cX4_takeSemicolon 22 = .ok (.iload_n 1, 1) := by decide +kernel
theorem dX4_takeSemicolon_23 : decode cX4_takeSemicolon 23 = .ok (.ireturn, 1) := by decide +kernel
theorem dX4_numberHere_0 : decode cX4_numberHere 0 = .ok (.aload_n 0, 1) := by decide +kernel
theorem dX4_numberHere_1 : decode cX4_numberHere 1 = .ok (.getfield 72, 3) := by decide +kernel
theorem dX4_numberHere_4 : decode cX4_numberHere 4 = .ok (.iconst 3, 1) := by decide +kernel
theorem dX4_numberHere_5 : decode cX4_numberHere 5 = .ok (.if_icmp .eq 5, 3) := by decide +kernel
theorem dX4_numberHere_8 : decode cX4_numberHere 8 = .ok (.iconst (-1), 1) := by decide +kernel
theorem dX4_numberHere_9 : decode cX4_numberHere 9 = .ok (.ireturn, 1) := by decide +kernel
theorem dX4_numberHere_10 : decode cX4_numberHere 10 = .ok (.iconst 0, 1) := by decide +kernel
theorem dX4_numberHere_11 : decode cX4_numberHere 11 = .ok (.istore_n 1, 1) := by decide +kernel
theorem dX4_numberHere_12 : decode cX4_numberHere 12 = .ok (.iconst 0, 1) := by decide +kernel
theorem dX4_numberHere_13 : decode cX4_numberHere 13 = .ok (.istore_n 2, 1) := by decide +kernel
theorem dX4_numberHere_14 : decode cX4_numberHere 14 = .ok (.iload_n 2, 1) := by decide +kernel
theorem dX4_numberHere_15 : decode cX4_numberHere 15 = .ok (.aload_n 0, 1) := by decide +kernel
theorem dX4_numberHere_16 : decode cX4_numberHere 16 = .ok (.getfield 39, 3) := by decide +kernel
theorem dX4_numberHere_19 : decode cX4_numberHere 19 = .ok (.if_icmp .ge 31, 3) := by decide +kernel
theorem dX4_numberHere_22 : decode cX4_numberHere 22 = .ok (.iload_n 1, 1) := by decide +kernel
theorem dX4_numberHere_23 : decode cX4_numberHere 23 = .ok (.bipush 10, 2) := by decide +kernel
theorem dX4_numberHere_25 : decode cX4_numberHere 25 = .ok (.imul, 1) := by decide +kernel
theorem dX4_numberHere_26 : decode cX4_numberHere 26 = .ok (.aload_n 0, 1) := by decide +kernel
theorem dX4_numberHere_27 : decode cX4_numberHere 27 = .ok (.getfield 12, 3) := by decide +kernel
theorem dX4_numberHere_30 : decode cX4_numberHere 30 = .ok (.aload_n 0, 1) := by decide +kernel
theorem dX4_numberHere_31 : decode cX4_numberHere 31 = .ok (.getfield 35, 3) := by decide +kernel
theorem dX4_numberHere_34 : decode cX4_numberHere 34 = .ok (.iload_n 2, 1) := by decide +kernel
theorem dX4_numberHere_35 : decode cX4_numberHere 35 = .ok (.iadd, 1) := by decide +kernel
theorem dX4_numberHere_36 : decode cX4_numberHere 36 = .ok (.invokevirtual 79, 3) := by decide +kernel
theorem dX4_numberHere_39 : decode cX4_numberHere 39 = .ok (.iadd, 1) := by decide +kernel
theorem dX4_numberHere_40 : decode cX4_numberHere 40 = .ok (.bipush 48, 2) := by decide +kernel
theorem dX4_numberHere_42 : decode cX4_numberHere 42 = .ok (.isub, 1) := by decide +kernel
theorem dX4_numberHere_43 : decode cX4_numberHere 43 = .ok (.istore_n 1, 1) := by decide +kernel
theorem dX4_numberHere_44 : decode cX4_numberHere 44 = .ok (.iinc 2 1, 3) := by decide +kernel
theorem dX4_numberHere_47 : decode cX4_numberHere 47 = .ok (.goto (-33), 3) := by decide +kernel
theorem dX4_numberHere_50 : decode cX4_numberHere 50 = .ok (.iload_n 1, 1) := by decide +kernel
theorem dX4_numberHere_51 : decode cX4_numberHere 51 = .ok (.ireturn, 1) := by decide +kernel
theorem dX4_eventHere_0 : decode cX4_eventHere 0 = .ok (.aload_n 0, 1) := by decide +kernel
theorem dX4_eventHere_1 : decode cX4_eventHere 1 = .ok (.getfield 72, 3) := by decide +kernel
theorem dX4_eventHere_4 : decode cX4_eventHere 4 = .ok (.iconst 2, 1) := by decide +kernel
theorem dX4_eventHere_5 : decode cX4_eventHere 5 = .ok (.if_icmp .ne 25, 3) := by decide +kernel
theorem dX4_eventHere_8 : decode cX4_eventHere 8 = .ok (.aload_n 0, 1) := by decide +kernel
theorem dX4_eventHere_9 : decode cX4_eventHere 9 = .ok (.getfield 21, 3) := by decide +kernel
theorem dX4_eventHere_12 : decode cX4_eventHere 12 = .ok (.aload_n 0, 1) := by decide +kernel
theorem dX4_eventHere_13 : decode cX4_eventHere 13 = .ok (.getfield 12, 3) := by decide +kernel
theorem dX4_eventHere_16 : decode cX4_eventHere 16 = .ok (.aload_n 0, 1) := by decide +kernel
theorem dX4_eventHere_17 : decode cX4_eventHere 17 = .ok (.getfield 35, 3) := by decide +kernel
theorem dX4_eventHere_20 : decode cX4_eventHere 20 = .ok (.aload_n 0, 1) := by decide +kernel
theorem dX4_eventHere_21 : decode cX4_eventHere 21 = .ok (.getfield 39, 3) := by decide +kernel
theorem dX4_eventHere_24 : decode cX4_eventHere 24 = .ok (.invokevirtual 99, 3) := by decide +kernel
theorem dX4_eventHere_27 : decode cX4_eventHere 27 = .ok (.goto 4, 3) := by decide +kernel
theorem dX4_eventHere_30 : decode cX4_eventHere 30 = .ok (.iconst (-1), 1) := by decide +kernel
theorem dX4_eventHere_31 : decode cX4_eventHere 31 = .ok (.ireturn, 1) := by decide +kernel
theorem dX4_kindHere_0 : decode cX4_kindHere 0 = .ok (.aload_n 0, 1) := by decide +kernel
theorem dX4_kindHere_1 : decode cX4_kindHere 1 = .ok (.ldc 103, 2) := by decide +kernel
theorem dX4_kindHere_3 : decode cX4_kindHere 3 = .ok (.invokevirtual 51, 3) := by decide +kernel
theorem dX4_kindHere_6 : decode cX4_kindHere 6 = .ok (.ifCond .eq 5, 3) := by decide +kernel
theorem dX4_kindHere_9 : decode cX4_kindHere 9 = .ok (.iconst 0, 1) := by decide +kernel
theorem dX4_kindHere_10 : decode cX4_kindHere 10 = .ok (.ireturn, 1) := by decide +kernel
theorem dX4_kindHere_11 : decode cX4_kindHere 11 = .ok (.aload_n 0, 1) := by decide +kernel
theorem dX4_kindHere_12 : decode cX4_kindHere 12 = .ok (.ldc 105, 2) := by decide +kernel
theorem dX4_kindHere_14 : decode cX4_kindHere 14 = .ok (.invokevirtual 51, 3) := by decide +kernel
theorem dX4_kindHere_17 : decode cX4_kindHere 17 = .ok (.ifCond .eq 7, 3) := by decide +kernel
theorem dX4_kindHere_20 : decode cX4_kindHere 20 = .ok (.iconst 1, 1) := by decide +kernel
theorem dX4_kindHere_21 : decode cX4_kindHere 21 = .ok (.goto 4, 3) := by decide +kernel
theorem dX4_kindHere_24 : decode cX4_kindHere 24 = .ok (.iconst (-1), 1) := by decide +kernel
theorem dX4_kindHere_25 : decode cX4_kindHere 25 = .ok (.ireturn, 1) := by decide +kernel
theorem dX4_readEnd_0 : decode cX4_readEnd 0 = .ok (.aload_n 0, 1) := by decide +kernel
theorem dX4_readEnd_1 : decode cX4_readEnd 1 = .ok (.ldc 107, 2) := by decide +kernel
theorem dX4_readEnd_3 : decode cX4_readEnd 3 = .ok (.invokevirtual 109, 3) := by decide +kernel
theorem dX4_readEnd_6 : decode cX4_readEnd 6 = .ok (.ifCond .ne 5, 3) := by decide +kernel
theorem dX4_readEnd_9 : decode cX4_readEnd 9 = .ok (.iconst 0, 1) := by decide +kernel
theorem dX4_readEnd_10 : decode cX4_readEnd 10 = .ok (.ireturn, 1) := by decide +kernel
theorem dX4_readEnd_11 : decode cX4_readEnd 11 = .ok (.aload_n 0, 1) := by decide +kernel
theorem dX4_readEnd_12 : decode cX4_readEnd 12 = .ok (.invokevirtual 112, 3) := by decide +kernel
theorem dX4_readEnd_15 : decode cX4_readEnd 15 = .ok (.istore_n 1, 1) := by decide +kernel
theorem dX4_readEnd_16 : decode cX4_readEnd 16 = .ok (.iload_n 1, 1) := by decide +kernel
theorem dX4_readEnd_17 : decode cX4_readEnd 17 = .ok (.iconst 1, 1) := by decide +kernel
theorem dX4_readEnd_18 : decode cX4_readEnd 18 = .ok (.if_icmp .ge 5, 3) := by decide +kernel
theorem dX4_readEnd_21 : decode cX4_readEnd 21 = .ok (.iconst 0, 1) := by decide +kernel
theorem dX4_readEnd_22 : decode cX4_readEnd 22 = .ok (.ireturn, 1) := by decide +kernel
theorem dX4_readEnd_23 : decode cX4_readEnd 23 = .ok (.aload_n 0, 1) := by decide +kernel
theorem dX4_readEnd_24 : decode cX4_readEnd 24 = .ok (.getfield 21, 3) := by decide +kernel
theorem dX4_readEnd_27 : decode cX4_readEnd 27 = .ok (.iload_n 1, 1) := by decide +kernel
theorem dX4_readEnd_28 : decode cX4_readEnd 28 = .ok (.putfield 116, 3) := by decide +kernel
theorem dX4_readEnd_31 : decode cX4_readEnd 31 = .ok (.aload_n 0, 1) := by decide +kernel
theorem dX4_readEnd_32 : decode cX4_readEnd 32 = .ok (.invokevirtual 42, 3) := by decide +kernel
theorem dX4_readEnd_35 : decode cX4_readEnd 35 = .ok (.aload_n 0, 1) := by decide +kernel
theorem dX4_readEnd_36 : decode cX4_readEnd 36 = .ok (.invokevirtual 119, 3) := by decide +kernel
theorem dX4_readEnd_39 : decode cX4_readEnd 39 = .ok (.ireturn, 1) := by decide +kernel
theorem dX4_readEvent_0 : decode cX4_readEvent 0 = .ok (.aload_n 0, 1) := by decide +kernel
theorem dX4_readEvent_1 : decode cX4_readEvent 1 = .ok (.getfield 21, 3) := by decide +kernel
theorem dX4_readEvent_4 : decode cX4_readEvent 4 = .ok (.getfield 122, 3) := by decide +kernel
theorem dX4_readEvent_7 : decode cX4_readEvent 7 = .ok (.bipush 10, 2) := by decide +kernel
theorem dX4_readEvent_9 : decode cX4_readEvent 9 = .ok (.if_icmp .ne 5, 3) := by decide +kernel
theorem dX4_readEvent_12 : decode cX4_readEvent 12 = .ok (.iconst 0, 1) := by decide +kernel
theorem dX4_readEvent_13 : decode cX4_readEvent 13 = .ok (.ireturn, 1) := by decide +kernel
theorem dX4_readEvent_14 : decode cX4_readEvent 14 = .ok (.aload_n 0, 1) := by decide +kernel
theorem dX4_readEvent_15 : decode cX4_readEvent 15 = .ok (.invokevirtual 42, 3) := by decide +kernel
theorem dX4_readEvent_18 : decode cX4_readEvent 18 = .ok (.aload_n 0, 1) := by decide +kernel
theorem dX4_readEvent_19 : decode cX4_readEvent 19 = .ok (.getfield 72, 3) := by decide +kernel
theorem dX4_readEvent_22 : decode cX4_readEvent 22 = .ok (.iconst 2, 1) := by decide +kernel
theorem dX4_readEvent_23 : decode cX4_readEvent 23 = .ok (.if_icmp .ne 29, 3) := by decide +kernel
theorem dX4_readEvent_26 : decode cX4_readEvent 26 = .ok (.aload_n 0, 1) := by decide +kernel
theorem dX4_readEvent_27 : decode cX4_readEvent 27 = .ok (.getfield 12, 3) := by decide +kernel
theorem dX4_readEvent_30 : decode cX4_readEvent 30 = .ok (.aload_n 0, 1) := by decide +kernel
theorem dX4_readEvent_31 : decode cX4_readEvent 31 = .ok (.getfield 35, 3) := by decide +kernel
theorem dX4_readEvent_34 : decode cX4_readEvent 34 = .ok (.aload_n 0, 1) := by decide +kernel
theorem dX4_readEvent_35 : decode cX4_readEvent 35 = .ok (.getfield 39, 3) := by decide +kernel
theorem dX4_readEvent_38 : decode cX4_readEvent 38 = .ok (.invokevirtual 125, 3) := by decide +kernel
theorem dX4_readEvent_41 : decode cX4_readEvent 41 = .ok (.ifCond .eq 11, 3) := by decide +kernel
theorem dX4_readEvent_44 : decode cX4_readEvent 44 = .ok (.aload_n 0, 1) := by decide +kernel
theorem dX4_readEvent_45 : decode cX4_readEvent 45 = .ok (.invokevirtual 129, 3) := by decide +kernel
theorem dX4_readEvent_48 : decode cX4_readEvent 48 = .ok (.iconst (-1), 1) := by decide +kernel
theorem dX4_readEvent_49 : decode cX4_readEvent 49 = .ok (.if_icmp .eq 5, 3) := by decide +kernel
theorem dX4_readEvent_52 : decode cX4_readEvent 52 = .ok (.iconst 0, 1) := by decide +kernel
theorem dX4_readEvent_53 : decode cX4_readEvent 53 = .ok (.ireturn, 1) := by decide +kernel
theorem dX4_readEvent_54 : decode cX4_readEvent 54 = .ok (.aload_n 0, 1) := by decide +kernel
theorem dX4_readEvent_55 : decode cX4_readEvent 55 = .ok (.getfield 21, 3) := by decide +kernel
theorem dX4_readEvent_58 : decode cX4_readEvent 58 = .ok (.aload_n 0, 1) := by decide +kernel
theorem dX4_readEvent_59 : decode cX4_readEvent 59 = .ok (.getfield 12, 3) := by decide +kernel
theorem dX4_readEvent_62 : decode cX4_readEvent 62 = .ok (.aload_n 0, 1) := by decide +kernel
theorem dX4_readEvent_63 : decode cX4_readEvent 63 = .ok (.getfield 35, 3) := by decide +kernel
theorem dX4_readEvent_66 : decode cX4_readEvent 66 = .ok (.aload_n 0, 1) := by decide +kernel
theorem dX4_readEvent_67 : decode cX4_readEvent 67 = .ok (.getfield 39, 3) := by decide +kernel
theorem dX4_readEvent_70 : decode cX4_readEvent 70 = .ok (.invokevirtual 132, 3) := by decide +kernel
theorem dX4_readEvent_73 : decode cX4_readEvent 73 = .ok (.pop, 1) := by decide +kernel
theorem dX4_readEvent_74 : decode cX4_readEvent 74 = .ok (.aload_n 0, 1) := by decide +kernel
theorem dX4_readEvent_75 : decode cX4_readEvent 75 = .ok (.invokevirtual 42, 3) := by decide +kernel
theorem dX4_readEvent_78 : decode cX4_readEvent 78 = .ok (.aload_n 0, 1) := by decide +kernel
theorem dX4_readEvent_79 : decode cX4_readEvent 79 = .ok (.invokevirtual 119, 3) := by decide +kernel
theorem dX4_readEvent_82 : decode cX4_readEvent 82 = .ok (.ireturn, 1) := by decide +kernel
theorem dX4_readGap_0 : decode cX4_readGap 0 = .ok (.aload_n 0, 1) := by decide +kernel
theorem dX4_readGap_1 : decode cX4_readGap 1 = .ok (.getfield 21, 3) := by decide +kernel
theorem dX4_readGap_4 : decode cX4_readGap 4 = .ok (.getfield 135, 3) := by decide +kernel
theorem dX4_readGap_7 : decode cX4_readGap 7 = .ok (.bipush 24, 2) := by decide +kernel
theorem dX4_readGap_9 : decode cX4_readGap 9 = .ok (.if_icmp .ne 5, 3) := by decide +kernel
theorem dX4_readGap_12 : decode cX4_readGap 12 = .ok (.iconst 0, 1) := by decide +kernel
theorem dX4_readGap_13 : decode cX4_readGap 13 = .ok (.ireturn, 1) := by decide +kernel
theorem dX4_readGap_14 : decode cX4_readGap 14 = .ok (.aload_n 0, 1) := by decide +kernel
theorem dX4_readGap_15 : decode cX4_readGap 15 = .ok (.invokevirtual 42, 3) := by decide +kernel
theorem dX4_readGap_18 : decode cX4_readGap 18 = .ok (.aload_n 0, 1) := by decide +kernel
theorem dX4_readGap_19 : decode cX4_readGap 19 = .ok (.invokevirtual 129, 3) := by decide +kernel
theorem dX4_readGap_22 : decode cX4_readGap 22 = .ok (.istore_n 1, 1) := by decide +kernel
theorem dX4_readGap_23 : decode cX4_readGap 23 = .ok (.iload_n 1, 1) := by decide +kernel
theorem dX4_readGap_24 : decode cX4_readGap 24 = .ok (.iconst (-1), 1) := by decide +kernel
theorem dX4_readGap_25 : decode cX4_readGap 25 = .ok (.if_icmp .ne 5, 3) := by decide +kernel
theorem dX4_readGap_28 : decode cX4_readGap 28 = .ok (.iconst 0, 1) := by decide +kernel
theorem dX4_readGap_29 : decode cX4_readGap 29 = .ok (.ireturn, 1) := by decide +kernel
theorem dX4_readGap_30 : decode cX4_readGap 30 = .ok (.aload_n 0, 1) := by decide +kernel
theorem dX4_readGap_31 : decode cX4_readGap 31 = .ok (.invokevirtual 42, 3) := by decide +kernel
theorem dX4_readGap_34 : decode cX4_readGap 34 = .ok (.aload_n 0, 1) := by decide +kernel
theorem dX4_readGap_35 : decode cX4_readGap 35 = .ok (.invokevirtual 129, 3) := by decide +kernel
theorem dX4_readGap_38 : decode cX4_readGap 38 = .ok (.istore_n 2, 1) := by decide +kernel
theorem dX4_readGap_39 : decode cX4_readGap 39 = .ok (.iload_n 2, 1) := by decide +kernel
theorem dX4_readGap_40 : decode cX4_readGap 40 = .ok (.iconst (-1), 1) := by decide +kernel
theorem dX4_readGap_41 : decode cX4_readGap 41 = .ok (.if_icmp .eq 8, 3) := by decide +kernel
theorem dX4_readGap_44 : decode cX4_readGap 44 = .ok (.iload_n 2, 1) := by decide +kernel
theorem dX4_readGap_45 : decode cX4_readGap 45 = .ok (.iload_n 1, 1) := by decide +kernel
theorem dX4_readGap_46 : decode cX4_readGap 46 = .ok (.if_icmp .ne 5, 3) := by decide +kernel
theorem dX4_readGap_49 : decode cX4_readGap 49 = .ok (.iconst 0, 1) := by decide +kernel
theorem dX4_readGap_50 : decode cX4_readGap 50 = .ok (.ireturn, 1) := by decide +kernel
theorem dX4_readGap_51 : decode cX4_readGap 51 = .ok (.aload_n 0, 1) := by decide +kernel
theorem dX4_readGap_52 : decode cX4_readGap 52 = .ok (.invokevirtual 42, 3) := by decide +kernel
theorem dX4_readGap_55 : decode cX4_readGap 55 = .ok (.aload_n 0, 1) := by decide +kernel
theorem dX4_readGap_56 : decode cX4_readGap 56 = .ok (.invokevirtual 138, 3) := by decide +kernel
theorem dX4_readGap_59 : decode cX4_readGap 59 = .ok (.istore_n 3, 1) := by decide +kernel
theorem dX4_readGap_60 : decode cX4_readGap 60 = .ok (.iload_n 3, 1) := by decide +kernel
theorem dX4_readGap_61 : decode cX4_readGap 61 = .ok (.iconst (-1), 1) := by decide +kernel
theorem dX4_readGap_62 : decode cX4_readGap 62 = .ok (.if_icmp .ne 5, 3) := by decide +kernel
theorem dX4_readGap_65 : decode cX4_readGap 65 = .ok (.iconst 0, 1) := by decide +kernel
theorem dX4_readGap_66 : decode cX4_readGap 66 = .ok (.ireturn, 1) := by decide +kernel
theorem dX4_readGap_67 : decode cX4_readGap 67 = .ok (.aload_n 0, 1) := by decide +kernel
theorem dX4_readGap_68 : decode cX4_readGap 68 = .ok (.invokevirtual 42, 3) := by decide +kernel
theorem dX4_readGap_71 : decode cX4_readGap 71 = .ok (.aload_n 0, 1) := by decide +kernel
theorem dX4_readGap_72 : decode cX4_readGap 72 = .ok (.invokevirtual 112, 3) := by decide +kernel
theorem dX4_readGap_75 : decode cX4_readGap 75 = .ok (.istore 4, 2) := by decide +kernel
theorem dX4_readGap_77 : decode cX4_readGap 77 = .ok (.iload 4, 2) := by decide +kernel
theorem dX4_readGap_79 : decode cX4_readGap 79 = .ok (.iconst (-1), 1) := by decide +kernel
theorem dX4_readGap_80 : decode cX4_readGap 80 = .ok (.if_icmp .ne 5, 3) := by decide +kernel
theorem dX4_readGap_83 : decode cX4_readGap 83 = .ok (.iconst 0, 1) := by decide +kernel
theorem dX4_readGap_84 : decode cX4_readGap 84 = .ok (.ireturn, 1) := by decide +kernel
theorem dX4_readGap_85 : decode cX4_readGap 85 = .ok (.aload_n 0, 1) := by decide +kernel
theorem dX4_readGap_86 : decode cX4_readGap 86 = .ok (.invokevirtual 42, 3) := by decide +kernel
theorem dX4_readGap_89 : decode cX4_readGap 89 = .ok (.aload_n 0, 1) := by decide +kernel
theorem dX4_readGap_90 : decode cX4_readGap 90 = .ok (.ldc 141, 2) := by decide +kernel
theorem dX4_readGap_92 : decode cX4_readGap 92 = .ok (.invokevirtual 109, 3) := by decide +kernel
theorem dX4_readGap_95 : decode cX4_readGap 95 = .ok (.ifCond .ne 7, 3) := by decide +kernel
theorem dX4_readGap_98 : decode cX4_readGap 98 = .ok (.iconst 1, 1) := by decide +kernel
theorem dX4_readGap_99 : decode cX4_readGap 99 = .ok (.goto 4, 3) := by decide +kernel
theorem dX4_readGap_102 : decode cX4_readGap 102 = .ok (.iconst 0, 1) := by decide +kernel
theorem dX4_readGap_103 : decode cX4_readGap 103 = .ok (.istore 5, 2) := by decide +kernel
theorem dX4_readGap_105 : decode cX4_readGap 105 = .ok (.aload_n 0, 1) := by decide +kernel
theorem dX4_readGap_106 : decode cX4_readGap 106 = .ok (.getfield 72, 3) := by decide +kernel
theorem dX4_readGap_109 : decode cX4_readGap 109 = .ok (.iconst 4, 1) := by decide +kernel
theorem dX4_readGap_110 : decode cX4_readGap 110 = .ok (.if_icmp .ne 23, 3) := by decide +kernel
theorem dX4_readGap_113 : decode cX4_readGap 113 = .ok (.iload 5, 2) := by decide +kernel
theorem dX4_readGap_115 : decode cX4_readGap 115 = .ok (.ifCond .eq 20, 3) := by decide +kernel
theorem dX4_readGap_118 : decode cX4_readGap 118 = .ok (.aload_n 0, 1) := by decide +kernel
theorem dX4_readGap_119 : decode cX4_readGap 119 = .ok (.getfield 28, 3) := by decide +kernel
theorem dX4_readGap_122 : decode cX4_readGap 122 = .ok (.iload_n 1, 1) := by decide +kernel
theorem dX4_readGap_123 : decode cX4_readGap 123 = .ok (.iload_n 2, 1) := by decide +kernel
theorem dX4_readGap_124 : decode cX4_readGap 124 = .ok (.iload_n 3, 1) := by decide +kernel
theorem dX4_readGap_125 : decode cX4_readGap 125 = .ok (.iload 4, 2) := by decide +kernel
theorem dX4_readGap_127 : decode cX4_readGap 127 = .ok (.invokevirtual 143, 3) := by decide +kernel
theorem dX4_readGap_130 : decode cX4_readGap 130 = .ok (.ifCond .ge 5, 3) := by decide +kernel
theorem dX4_readGap_133 : decode cX4_readGap 133 = .ok (.iconst 0, 1) := by decide +kernel
theorem dX4_readGap_134 : decode cX4_readGap 134 = .ok (.ireturn, 1) := by decide +kernel
theorem dX4_readGap_135 : decode cX4_readGap 135 = .ok (.aload_n 0, 1) := by decide +kernel
theorem dX4_readGap_136 : decode cX4_readGap 136 = .ok (.getfield 21, 3) := by decide +kernel
theorem dX4_readGap_139 : decode cX4_readGap 139 = .ok (.iload_n 1, 1) := by decide +kernel
theorem dX4_readGap_140 : decode cX4_readGap 140 = .ok (.iload_n 2, 1) := by decide +kernel
theorem dX4_readGap_141 : decode cX4_readGap 141 = .ok (.iload_n 3, 1) := by decide +kernel
theorem dX4_readGap_142 : decode cX4_readGap 142 = .ok (.iload 4, 2) := by decide +kernel
theorem dX4_readGap_144 : decode cX4_readGap 144 = .ok (.iload 5, 2) := by decide +kernel
theorem dX4_readGap_146 : decode cX4_readGap 146 = .ok (.invokevirtual 147, 3) := by decide +kernel
theorem dX4_readGap_149 : decode cX4_readGap 149 = .ok (.pop, 1) := by decide +kernel
theorem dX4_readGap_150 : decode cX4_readGap 150 = .ok (.iload 5, 2) := by decide +kernel
theorem dX4_readGap_152 : decode cX4_readGap 152 = .ok (.ifCond .eq 15, 3) := by decide +kernel
theorem dX4_readGap_155 : decode cX4_readGap 155 = .ok (.aload_n 0, 1) := by decide +kernel
theorem dX4_readGap_156 : decode cX4_readGap 156 = .ok (.getfield 28, 3) := by decide +kernel
theorem dX4_readGap_159 : decode cX4_readGap 159 = .ok (.iload_n 1, 1) := by decide +kernel
theorem dX4_readGap_160 : decode cX4_readGap 160 = .ok (.iload_n 2, 1) := by decide +kernel
theorem dX4_readGap_161 : decode cX4_readGap 161 = .ok (.iload_n 3, 1) := by decide +kernel
theorem dX4_readGap_162 : decode cX4_readGap 162 = .ok (.iload 4, 2) := by decide +kernel
theorem dX4_readGap_164 : decode cX4_readGap 164 = .ok (.invokevirtual 151, 3) := by decide +kernel
theorem dX4_readGap_167 : decode cX4_readGap 167 = .ok (.aload_n 0, 1) := by decide +kernel
theorem dX4_readGap_168 : decode cX4_readGap 168 = .ok (.invokevirtual 42, 3) := by decide +kernel
theorem dX4_readGap_171 : decode cX4_readGap 171 = .ok (.iconst 1, 1) := by decide +kernel
theorem dX4_readGap_172 : decode cX4_readGap 172 = .ok (.ireturn, 1) := by decide +kernel
theorem dX4_readPin_0 : decode cX4_readPin 0 = .ok (.aload_n 0, 1) := by decide +kernel
theorem dX4_readPin_1 : decode cX4_readPin 1 = .ok (.invokevirtual 42, 3) := by decide +kernel
theorem dX4_readPin_4 : decode cX4_readPin 4 = .ok (.aload_n 0, 1) := by decide +kernel
theorem dX4_readPin_5 : decode cX4_readPin 5 = .ok (.invokevirtual 129, 3) := by decide +kernel
theorem dX4_readPin_8 : decode cX4_readPin 8 = .ok (.istore_n 1, 1) := by decide +kernel
theorem dX4_readPin_9 : decode cX4_readPin 9 = .ok (.iload_n 1, 1) := by decide +kernel
theorem dX4_readPin_10 : decode cX4_readPin 10 = .ok (.iconst (-1), 1) := by decide +kernel
theorem dX4_readPin_11 : decode cX4_readPin 11 = .ok (.if_icmp .eq 18, 3) := by decide +kernel
theorem dX4_readPin_14 : decode cX4_readPin 14 = .ok (.iload_n 1, 1) := by decide +kernel
theorem dX4_readPin_15 : decode cX4_readPin 15 = .ok (.ifCond .eq 14, 3) := by decide +kernel
theorem dX4_readPin_18 : decode cX4_readPin 18 = .ok (.aload_n 0, 1) := by decide +kernel
theorem dX4_readPin_19 : decode cX4_readPin 19 = .ok (.getfield 21, 3) := by decide +kernel
theorem dX4_readPin_22 : decode cX4_readPin 22 = .ok (.iload_n 1, 1) := by decide +kernel
theorem dX4_readPin_23 : decode cX4_readPin 23 = .ok (.invokevirtual 155, 3) := by decide +kernel
theorem dX4_readPin_26 : decode cX4_readPin 26 = .ok (.ifCond .eq 5, 3) := by decide +kernel
theorem dX4_readPin_29 : decode cX4_readPin 29 = .ok (.iconst 0, 1) := by decide +kernel
theorem dX4_readPin_30 : decode cX4_readPin 30 = .ok (.ireturn, 1) := by decide +kernel
theorem dX4_readPin_31 : decode cX4_readPin 31 = .ok (.aload_n 0, 1) := by decide +kernel
theorem dX4_readPin_32 : decode cX4_readPin 32 = .ok (.invokevirtual 42, 3) := by decide +kernel
theorem dX4_readPin_35 : decode cX4_readPin 35 = .ok (.aload_n 0, 1) := by decide +kernel
theorem dX4_readPin_36 : decode cX4_readPin 36 = .ok (.invokevirtual 112, 3) := by decide +kernel
theorem dX4_readPin_39 : decode cX4_readPin 39 = .ok (.istore_n 2, 1) := by decide +kernel
theorem dX4_readPin_40 : decode cX4_readPin 40 = .ok (.iload_n 2, 1) := by decide +kernel
theorem dX4_readPin_41 : decode cX4_readPin 41 = .ok (.iconst (-1), 1) := by decide +kernel
theorem dX4_readPin_42 : decode cX4_readPin 42 = .ok (.if_icmp .eq 14, 3) := by decide +kernel
theorem dX4_readPin_45 : decode cX4_readPin 45 = .ok (.iload_n 2, 1) := by decide +kernel
theorem dX4_readPin_46 : decode cX4_readPin 46 = .ok (.aload_n 0, 1) := by decide +kernel
theorem dX4_readPin_47 : decode cX4_readPin 47 = .ok (.getfield 21, 3) := by decide +kernel
theorem dX4_readPin_50 : decode cX4_readPin 50 = .ok (.getfield 116, 3) := by decide +kernel
theorem dX4_readPin_53 : decode cX4_readPin 53 = .ok (.if_icmp .le 5, 3) := by decide +kernel
theorem dX4_readPin_56 : decode cX4_readPin 56 = .ok (.iconst 0, 1) := by decide +kernel
theorem dX4_readPin_57 : decode cX4_readPin 57 = .ok (.ireturn, 1) := by decide +kernel
theorem dX4_readPin_58 : decode cX4_readPin 58 = .ok (.aload_n 0, 1) := by decide +kernel
theorem dX4_readPin_59 : decode cX4_readPin 59 = .ok (.invokevirtual 42, 3) := by decide +kernel
theorem dX4_readPin_62 : decode cX4_readPin 62 = .ok (.aload_n 0, 1) := by decide +kernel
theorem dX4_readPin_63 : decode cX4_readPin 63 = .ok (.getfield 72, 3) := by decide +kernel
theorem dX4_readPin_66 : decode cX4_readPin 66 = .ok (.iconst 4, 1) := by decide +kernel
theorem dX4_readPin_67 : decode cX4_readPin 67 = .ok (.if_icmp .ne 15, 3) := by decide +kernel
theorem dX4_readPin_70 : decode cX4_readPin 70 = .ok (.aload_n 0, 1) := by decide +kernel
theorem dX4_readPin_71 : decode cX4_readPin 71 = .ok (.getfield 28, 3) := by decide +kernel
theorem dX4_readPin_74 : decode cX4_readPin 74 = .ok (.iload_n 1, 1) := by decide +kernel
theorem dX4_readPin_75 : decode cX4_readPin 75 = .ok (.iload_n 2, 1) := by decide +kernel
theorem dX4_readPin_76 : decode cX4_readPin 76 = .ok (.invokevirtual 158, 3) := by decide +kernel
theorem dX4_readPin_79 : decode cX4_readPin 79 = .ok (.ifCond .ne 5, 3) := by decide +kernel
theorem dX4_readPin_82 : decode cX4_readPin 82 = .ok (.iconst 0, 1) := by decide +kernel
theorem dX4_readPin_83 : decode cX4_readPin 83 = .ok (.ireturn, 1) := by decide +kernel
theorem dX4_readPin_84 : decode cX4_readPin 84 = .ok (.aload_n 0, 1) := by decide +kernel
theorem dX4_readPin_85 : decode cX4_readPin 85 = .ok (.getfield 21, 3) := by decide +kernel
theorem dX4_readPin_88 : decode cX4_readPin 88 = .ok (.getfield 161, 3) := by decide +kernel
theorem dX4_readPin_91 : decode cX4_readPin 91 = .ok (.iload_n 1, 1) := by decide +kernel
theorem dX4_readPin_92 : decode cX4_readPin 92 = .ok (.iload_n 2, 1) := by decide +kernel
theorem dX4_readPin_93 : decode cX4_readPin 93 = .ok (.iastore, 1) := by decide +kernel
theorem dX4_readPin_94 : decode cX4_readPin 94 = .ok (.aload_n 0, 1) := by decide +kernel
theorem dX4_readPin_95 : decode cX4_readPin 95 = .ok (.getfield 28, 3) := by decide +kernel
theorem dX4_readPin_98 : decode cX4_readPin 98 = .ok (.iload_n 1, 1) := by decide +kernel
theorem dX4_readPin_99 : decode cX4_readPin 99 = .ok (.iload_n 2, 1) := by decide +kernel
theorem dX4_readPin_100 : decode cX4_readPin 100 = .ok (.invokevirtual 165, 3) := by decide +kernel
theorem dX4_readPin_103 : decode cX4_readPin 103 = .ok (.aload_n 0, 1) := by decide +kernel
theorem dX4_readPin_104 : decode cX4_readPin 104 = .ok (.invokevirtual 42, 3) := by decide +kernel
theorem dX4_readPin_107 : decode cX4_readPin 107 = .ok (.iconst 1, 1) := by decide +kernel
theorem dX4_readPin_108 : decode cX4_readPin 108 = .ok (.ireturn, 1) := by decide +kernel
theorem dX5_init_0 : decode cX5_init 0 = .ok (.aload_n 0, 1) := by decide +kernel
theorem dX5_init_1 : decode cX5_init 1 = .ok (.invokespecial 3, 3) := by decide +kernel
theorem dX5_init_4 : decode cX5_init 4 = .ok (.aload_n 0, 1) := by decide +kernel
theorem dX5_init_5 : decode cX5_init 5 = .ok (.iconst 2, 1) := by decide +kernel
theorem dX5_init_6 : decode cX5_init 6 = .ok (.anewarray 9, 3) := by decide +kernel
theorem dX5_init_9 : decode cX5_init 9 = .ok (.putfield 11, 3) := by decide +kernel
theorem dX5_init_12 : decode cX5_init 12 = .ok (.aload_n 0, 1) := by decide +kernel
theorem dX5_init_13 : decode cX5_init 13 = .ok (.iconst 2, 1) := by decide +kernel
theorem dX5_init_14 : decode cX5_init 14 = .ok (.newarray .boolean, 2) := by decide +kernel
theorem dX5_init_16 : decode cX5_init 16 = .ok (.putfield 17, 3) := by decide +kernel
theorem dX5_init_19 : decode cX5_init 19 = .ok (.iconst 0, 1) := by decide +kernel
theorem dX5_init_20 : decode cX5_init 20 = .ok (.istore_n 1, 1) := by decide +kernel
theorem dX5_init_21 : decode cX5_init 21 = .ok (.iload_n 1, 1) := by decide +kernel
theorem dX5_init_22 : decode cX5_init 22 = .ok (.iconst 2, 1) := by decide +kernel
theorem dX5_init_23 : decode cX5_init 23 = .ok (.if_icmp .ge 22, 3) := by decide +kernel
theorem dX5_init_26 : decode cX5_init 26 = .ok (.aload_n 0, 1) := by decide +kernel
theorem dX5_init_27 : decode cX5_init 27 = .ok (.getfield 11, 3) := by decide +kernel
theorem dX5_init_30 : decode cX5_init 30 = .ok (.iload_n 1, 1) := by decide +kernel
theorem dX5_init_31 : decode cX5_init 31 = .ok (.new 9, 3) := by decide +kernel
theorem dX5_init_34 : decode cX5_init 34 = .ok (.dup, 1) := by decide +kernel
theorem dX5_init_35 : decode cX5_init 35 = .ok (.invokespecial 21, 3) := by decide +kernel
theorem dX5_init_38 : decode cX5_init 38 = .ok (.aastore, 1) := by decide +kernel
theorem dX5_init_39 : decode cX5_init 39 = .ok (.iinc 1 1, 3) := by decide +kernel
theorem dX5_init_42 : decode cX5_init 42 = .ok (.goto (-21), 3) := by decide +kernel
theorem dX5_init_45 : decode cX5_init 45 = .ok (.return_, 1) := by decide +kernel
theorem dX5_clear_0 : decode cX5_clear 0 = .ok (.iconst 0, 1) := by decide +kernel
theorem dX5_clear_1 : decode cX5_clear 1 = .ok (.istore_n 1, 1) := by decide +kernel
theorem dX5_clear_2 : decode cX5_clear 2 = .ok (.iload_n 1, 1) := by decide +kernel
theorem dX5_clear_3 : decode cX5_clear 3 = .ok (.iconst 2, 1) := by decide +kernel
theorem dX5_clear_4 : decode cX5_clear 4 = .ok (.if_icmp .ge 16, 3) := by decide +kernel
theorem dX5_clear_7 : decode cX5_clear 7 = .ok (.aload_n 0, 1) := by decide +kernel
theorem dX5_clear_8 : decode cX5_clear 8 = .ok (.getfield 17, 3) := by decide +kernel
theorem dX5_clear_11 : decode cX5_clear 11 = .ok (.iload_n 1, 1) := by decide +kernel
theorem dX5_clear_12 : decode cX5_clear 12 = .ok (.iconst 0, 1) := by decide +kernel
theorem dX5_clear_13 : decode cX5_clear 13 = .ok (.bastore, 1) := by decide +kernel
theorem dX5_clear_14 : decode cX5_clear 14 = .ok (.iinc 1 1, 3) := by decide +kernel
theorem dX5_clear_17 : decode cX5_clear 17 = .ok (.goto (-15), 3) := by decide +kernel
theorem dX5_clear_20 : decode cX5_clear 20 = .ok (.return_, 1) := by decide +kernel
theorem dX6_init_0 : decode cX6_init 0 = .ok (.aload_n 0, 1) := by decide +kernel
theorem dX6_init_1 : decode cX6_init 1 = .ok (.invokespecial 3, 3) := by decide +kernel
theorem dX6_init_4 : decode cX6_init 4 = .ok (.aload_n 0, 1) := by decide +kernel
theorem dX6_init_5 : decode cX6_init 5 = .ok (.sipush 900, 3) := by decide +kernel
theorem dX6_init_8 : decode cX6_init 8 = .ok (.newarray .int, 2) := by decide +kernel
theorem dX6_init_10 : decode cX6_init 10 = .ok (.putfield 9, 3) := by decide +kernel
theorem dX6_init_13 : decode cX6_init 13 = .ok (.return_, 1) := by decide +kernel
theorem dX6_putFourBytes_0 : decode cX6_putFourBytes 0 = .ok (.bipush 24, 2) := by decide +kernel
theorem dX6_putFourBytes_2 : decode cX6_putFourBytes 2 = .ok (.istore_n 2, 1) := by decide +kernel
theorem dX6_putFourBytes_3 : decode cX6_putFourBytes 3 = .ok (.iload_n 2, 1) := by decide +kernel
theorem dX6_putFourBytes_4 : decode cX6_putFourBytes 4 = .ok (.ifCond .lt 45, 3) := by decide +kernel
theorem dX6_putFourBytes_7 : decode cX6_putFourBytes 7 = .ok (.aload_n 0, 1) := by decide +kernel
theorem dX6_putFourBytes_8 : decode cX6_putFourBytes 8 = .ok (.getfield 15, 3) := by decide +kernel
theorem dX6_putFourBytes_11 : decode cX6_putFourBytes 11 = .ok (.sipush 900, 3) := by decide +kernel
theorem dX6_putFourBytes_14 : decode cX6_putFourBytes 14 = .ok (.if_icmp .ge 29, 3) := by decide +kernel
theorem dX6_putFourBytes_17 : decode cX6_putFourBytes 17 = .ok (.aload_n 0, 1) := by decide +kernel
theorem dX6_putFourBytes_18 : decode cX6_putFourBytes 18 = .ok (.getfield 9, 3) := by decide +kernel
theorem dX6_putFourBytes_21 : decode cX6_putFourBytes 21 = .ok (.aload_n 0, 1) := by decide +kernel
theorem dX6_putFourBytes_22 : decode cX6_putFourBytes 22 = .ok (.getfield 15, 3) := by decide +kernel
theorem dX6_putFourBytes_25 : decode cX6_putFourBytes 25 = .ok (.iload_n 1, 1) := by decide +kernel
theorem dX6_putFourBytes_26 : decode cX6_putFourBytes 26 = .ok (.iload_n 2, 1) := by decide +kernel
theorem dX6_putFourBytes_27 : decode cX6_putFourBytes 27 = .ok (.iushr, 1) := by decide +kernel
theorem dX6_putFourBytes_28 : decode cX6_putFourBytes 28 = .ok (.sipush 255, 3) := by decide +kernel
theorem dX6_putFourBytes_31 : decode cX6_putFourBytes 31 = .ok (.iand, 1) := by decide +kernel
theorem dX6_putFourBytes_32 : decode cX6_putFourBytes 32 = .ok (.iastore, 1) := by decide +kernel
theorem dX6_putFourBytes_33 : decode cX6_putFourBytes 33 = .ok (.aload_n 0, 1) := by decide +kernel
theorem dX6_putFourBytes_34 : decode cX6_putFourBytes 34 = .ok (.dup, 1) := by decide +kernel
theorem dX6_putFourBytes_35 : decode cX6_putFourBytes 35 = .ok (.getfield 15, 3) := by decide +kernel
theorem dX6_putFourBytes_38 : decode cX6_putFourBytes 38 = .ok (.iconst 1, 1) := by decide +kernel
theorem dX6_putFourBytes_39 : decode cX6_putFourBytes 39 = .ok (.iadd, 1) := by decide +kernel
theorem dX6_putFourBytes_40 : decode cX6_putFourBytes 40 = .ok (.putfield 15, 3) := by decide +kernel
theorem dX6_putFourBytes_43 : decode cX6_putFourBytes 43 = .ok (.iinc 2 (-8), 3) := by decide +kernel
theorem dX6_putFourBytes_46 : decode cX6_putFourBytes 46 = .ok (.goto (-43), 3) := by decide +kernel
theorem dX6_putFourBytes_49 : decode cX6_putFourBytes 49 = .ok (.return_, 1) := by decide +kernel
theorem dX6_byteAt_0 : decode cX6_byteAt 0 = .ok (.iload_n 1, 1) := by decide +kernel
theorem dX6_byteAt_1 : decode cX6_byteAt 1 = .ok (.ifCond .lt 20, 3) := by decide +kernel
theorem dX6_byteAt_4 : decode cX6_byteAt 4 = .ok (.iload_n 1, 1) := by decide +kernel
theorem dX6_byteAt_5 : decode cX6_byteAt 5 = .ok (.aload_n 0, 1) := by decide +kernel
theorem dX6_byteAt_6 : decode cX6_byteAt 6 = .ok (.getfield 15, 3) := by decide +kernel
theorem dX6_byteAt_9 : decode cX6_byteAt 9 = .ok (.if_icmp .ge 12, 3) := by decide +kernel
theorem dX6_byteAt_12 : decode cX6_byteAt 12 = .ok (.aload_n 0, 1) := by decide +kernel
theorem dX6_byteAt_13 : decode cX6_byteAt 13 = .ok (.getfield 9, 3) := by decide +kernel
theorem dX6_byteAt_16 : decode cX6_byteAt 16 = .ok (.iload_n 1, 1) := by decide +kernel
theorem dX6_byteAt_17 : decode cX6_byteAt 17 = .ok (.iaload, 1) := by decide +kernel
theorem dX6_byteAt_18 : decode cX6_byteAt 18 = .ok (.goto 4, 3) := by decide +kernel
theorem dX6_byteAt_21 : decode cX6_byteAt 21 = .ok (.iconst (-1), 1) := by decide +kernel
theorem dX6_byteAt_22 : decode cX6_byteAt 22 = .ok (.ireturn, 1) := by decide +kernel
theorem dX6_isName_0 : decode cX6_isName 0 = .ok (.iload_n 2, 1) := by decide +kernel
theorem dX6_isName_1 : decode cX6_isName 1 = .ok (.iconst 1, 1) := by decide +kernel
theorem dX6_isName_2 : decode cX6_isName 2 = .ok (.if_icmp .lt 30, 3) := by decide +kernel
theorem dX6_isName_5 : decode cX6_isName 5 = .ok (.iload_n 2, 1) := by decide +kernel
theorem dX6_isName_6 : decode cX6_isName 6 = .ok (.iconst 5, 1) := by decide +kernel
theorem dX6_isName_7 : decode cX6_isName 7 = .ok (.if_icmp .gt 25, 3) := by decide +kernel
theorem dX6_isName_10 : decode cX6_isName 10 = .ok (.aload_n 0, 1) := by decide +kernel
theorem dX6_isName_11 : decode cX6_isName 11 = .ok (.iload_n 1, 1) := by decide +kernel
theorem dX6_isName_12 : decode cX6_isName 12 = .ok (.invokevirtual 19, 3) := by decide +kernel
theorem dX6_isName_15 : decode cX6_isName 15 = .ok (.iload_n 2, 1) := by decide +kernel
theorem dX6_isName_16 : decode cX6_isName 16 = .ok (.if_icmp .lt 16, 3) := by decide +kernel
theorem dX6_isName_19 : decode cX6_isName 19 = .ok (.aload_n 0, 1) := by decide +kernel
theorem dX6_isName_20 : decode cX6_isName 20 = .ok (.iload_n 1, 1) := by decide +kernel
theorem dX6_isName_21 : decode cX6_isName 21 = .ok (.iload_n 2, 1) := by decide +kernel
theorem dX6_isName_22 : decode cX6_isName 22 = .ok (.invokevirtual 23, 3) := by decide +kernel
theorem dX6_isName_25 : decode cX6_isName 25 = .ok (.ifCond .ne 7, 3) := by decide +kernel
theorem dX6_isName_28 : decode cX6_isName 28 = .ok (.iconst 1, 1) := by decide +kernel
theorem dX6_isName_29 : decode cX6_isName 29 = .ok (.goto 4, 3) := by decide +kernel
theorem dX6_isName_32 : decode cX6_isName 32 = .ok (.iconst 0, 1) := by decide +kernel
theorem dX6_isName_33 : decode cX6_isName 33 = .ok (.ireturn, 1) := by decide +kernel
theorem dX6_isKeyword_0 : decode cX6_isKeyword 0 = .ok (.aload_n 0, 1) := by decide +kernel
theorem dX6_isKeyword_1 : decode cX6_isKeyword 1 = .ok (.iload_n 1, 1) := by decide +kernel
theorem dX6_isKeyword_2 : decode cX6_isKeyword 2 = .ok (.iload_n 2, 1) := by decide +kernel
theorem dX6_isKeyword_3 : decode cX6_isKeyword 3 = .ok (.ldc 27, 2) := by decide +kernel
theorem dX6_isKeyword_5 : decode cX6_isKeyword 5 = .ok (.invokevirtual 29, 3) := by decide +kernel
theorem dX6_isKeyword_8 : decode cX6_isKeyword 8 = .ok (.ifCond .ne 80, 3) := by decide +kernel
theorem dX6_isKeyword_11 : decode cX6_isKeyword 11 = .ok (.aload_n 0, 1) := by decide +kernel
theorem dX6_isKeyword_12 : decode cX6_isKeyword 12 = .ok (.iload_n 1, 1) := by decide +kernel
theorem dX6_isKeyword_13 : decode cX6_isKeyword 13 = .ok (.iload_n 2, 1) := by decide +kernel
theorem dX6_isKeyword_14 : decode cX6_isKeyword 14 = .ok (.ldc 33, 2) := by decide +kernel
theorem dX6_isKeyword_16 : decode cX6_isKeyword 16 = .ok (.invokevirtual 29, 3) := by decide +kernel
theorem dX6_isKeyword_19 : decode cX6_isKeyword 19 = .ok (.ifCond .ne 69, 3) := by decide +kernel
theorem dX6_isKeyword_22 : decode cX6_isKeyword 22 = .ok (.aload_n 0, 1) := by decide +kernel
theorem dX6_isKeyword_23 : decode cX6_isKeyword 23 = .ok (.iload_n 1, 1) := by decide +kernel
theorem dX6_isKeyword_24 : decode cX6_isKeyword 24 = .ok (.iload_n 2, 1) := by decide +kernel
theorem dX6_isKeyword_25 : decode cX6_isKeyword 25 = .ok (.ldc 35, 2) := by decide +kernel
theorem dX6_isKeyword_27 : decode cX6_isKeyword 27 = .ok (.invokevirtual 29, 3) := by decide +kernel
theorem dX6_isKeyword_30 : decode cX6_isKeyword 30 = .ok (.ifCond .ne 58, 3) := by decide +kernel
theorem dX6_isKeyword_33 : decode cX6_isKeyword 33 = .ok (.aload_n 0, 1) := by decide +kernel
theorem dX6_isKeyword_34 : decode cX6_isKeyword 34 = .ok (.iload_n 1, 1) := by decide +kernel
theorem dX6_isKeyword_35 : decode cX6_isKeyword 35 = .ok (.iload_n 2, 1) := by decide +kernel
theorem dX6_isKeyword_36 : decode cX6_isKeyword 36 = .ok (.ldc 37, 2) := by decide +kernel
theorem dX6_isKeyword_38 : decode cX6_isKeyword 38 = .ok (.invokevirtual 29, 3) := by decide +kernel
theorem dX6_isKeyword_41 : decode cX6_isKeyword 41 = .ok (.ifCond .ne 47, 3) := by decide +kernel
theorem dX6_isKeyword_44 : decode cX6_isKeyword 44 = .ok (.aload_n 0, 1) := by decide +kernel
theorem dX6_isKeyword_45 : decode cX6_isKeyword 45 = .ok (.iload_n 1, 1) := by decide +kernel
theorem dX6_isKeyword_46 : decode cX6_isKeyword 46 = .ok (.iload_n 2, 1) := by decide +kernel
theorem dX6_isKeyword_47 : decode cX6_isKeyword 47 = .ok (.ldc 39, 2) := by decide +kernel
theorem dX6_isKeyword_49 : decode cX6_isKeyword 49 = .ok (.invokevirtual 29, 3) := by decide +kernel
theorem dX6_isKeyword_52 : decode cX6_isKeyword 52 = .ok (.ifCond .ne 36, 3) := by decide +kernel
theorem dX6_isKeyword_55 : decode cX6_isKeyword 55 = .ok (.aload_n 0, 1) := by decide +kernel
theorem dX6_isKeyword_56 : decode cX6_isKeyword 56 = .ok (.iload_n 1, 1) := by decide +kernel
theorem dX6_isKeyword_57 : decode cX6_isKeyword 57 = .ok (.iload_n 2, 1) := by decide +kernel
theorem dX6_isKeyword_58 : decode cX6_isKeyword 58 = .ok (.ldc 41, 2) := by decide +kernel
theorem dX6_isKeyword_60 : decode cX6_isKeyword 60 = .ok (.invokevirtual 29, 3) := by decide +kernel
theorem dX6_isKeyword_63 : decode cX6_isKeyword 63 = .ok (.ifCond .ne 25, 3) := by decide +kernel
theorem dX6_isKeyword_66 : decode cX6_isKeyword 66 = .ok (.aload_n 0, 1) := by decide +kernel
theorem dX6_isKeyword_67 : decode cX6_isKeyword 67 = .ok (.iload_n 1, 1) := by decide +kernel
theorem dX6_isKeyword_68 : decode cX6_isKeyword 68 = .ok (.iload_n 2, 1) := by decide +kernel
theorem dX6_isKeyword_69 : decode cX6_isKeyword 69 = .ok (.ldc 43, 2) := by decide +kernel
theorem dX6_isKeyword_71 : decode cX6_isKeyword 71 = .ok (.invokevirtual 29, 3) := by decide +kernel
theorem dX6_isKeyword_74 : decode cX6_isKeyword 74 = .ok (.ifCond .ne 14, 3) := by decide +kernel
theorem dX6_isKeyword_77 : decode cX6_isKeyword 77 = .ok (.aload_n 0, 1) := by decide +kernel
theorem dX6_isKeyword_78 : decode cX6_isKeyword 78 = .ok (.iload_n 1, 1) := by decide +kernel
theorem dX6_isKeyword_79 : decode cX6_isKeyword 79 = .ok (.iload_n 2, 1) := by decide +kernel
theorem dX6_isKeyword_80 : decode cX6_isKeyword 80 = .ok (.ldc 45, 2) := by decide +kernel
theorem dX6_isKeyword_82 : decode cX6_isKeyword 82 = .ok (.invokevirtual 29, 3) := by decide +kernel
theorem dX6_isKeyword_85 : decode cX6_isKeyword 85 = .ok (.ifCond .eq 7, 3) := by decide +kernel
theorem dX6_isKeyword_88 : decode cX6_isKeyword 88 = .ok (.iconst 1, 1) := by decide +kernel
theorem dX6_isKeyword_89 : decode cX6_isKeyword 89 = .ok (.goto 4, 3) := by decide +kernel
theorem dX6_isKeyword_92 : decode cX6_isKeyword 92 = .ok (.iconst 0, 1) := by decide +kernel
theorem dX6_isKeyword_93 : decode cX6_isKeyword 93 = .ok (.ireturn, 1) := by decide +kernel
theorem dX6_spells_0 : decode cX6_spells 0 = .ok (.iload_n 2, 1) := by decide +kernel
theorem dX6_spells_1 : decode cX6_spells 1 = .ok (.aload_n 3, 1) := by decide +kernel
theorem dX6_spells_2 : decode cX6_spells 2 = .ok (.invokevirtual 47, 3) := by decide +kernel
theorem dX6_spells_5 : decode cX6_spells 5 = .ok (.if_icmp .eq 5, 3) := by decide +kernel
theorem dX6_spells_8 : decode cX6_spells 8 = .ok (.iconst 0, 1) := by decide +kernel
theorem dX6_spells_9 : decode cX6_spells 9 = .ok (.ireturn, 1) := by decide +kernel
theorem dX6_spells_10 : decode cX6_spells 10 = .ok (.iconst 0, 1) := by decide +kernel
theorem dX6_spells_11 : decode cX6_spells 11 = .ok (.istore 4, 2) := by decide +kernel
theorem dX6_spells_13 : decode cX6_spells 13 = .ok (.iload 4, 2) := by decide +kernel
theorem dX6_spells_15 : decode cX6_spells 15 = .ok (.iload_n 2, 1) := by decide +kernel
theorem dX6_spells_16 : decode cX6_spells 16 = .ok (.if_icmp .ge 37, 3) := by decide +kernel
theorem dX6_spells_19 : decode cX6_spells 19 = .ok (.iload 4, 2) := by decide +kernel
theorem dX6_spells_21 : decode cX6_spells 21 = .ok (.aload_n 3, 1) := by decide +kernel
theorem dX6_spells_22 : decode cX6_spells 22 = .ok (.invokevirtual 47, 3) := by decide +kernel
theorem dX6_spells_25 : decode cX6_spells 25 = .ok (.if_icmp .ge 28, 3) := by decide +kernel
theorem dX6_spells_28 : decode cX6_spells 28 = .ok (.aload_n 0, 1) := by decide +kernel
theorem dX6_spells_29 : decode cX6_spells 29 = .ok (.iload_n 1, 1) := by decide +kernel
theorem dX6_spells_30 : decode cX6_spells 30 = .ok (.iload 4, 2) := by decide +kernel
theorem dX6_spells_32 : decode cX6_spells 32 = .ok (.iadd, 1) := by decide +kernel
theorem dX6_spells_33 : decode cX6_spells 33 = .ok (.invokevirtual 52, 3) := by decide +kernel
theorem dX6_spells_36 : decode cX6_spells 36 = .ok (.aload_n 3, 1) := by decide +kernel
theorem dX6_spells_37 : decode cX6_spells 37 = .ok (.iload 4, 2) := by decide +kernel
theorem dX6_spells_39 : decode cX6_spells 39 = .ok (.invokevirtual 55, 3) := by decide +kernel
theorem dX6_spells_42 : decode cX6_spells 42 = .ok (.if_icmp .eq 5, 3) := by decide +kernel
theorem dX6_spells_45 : decode cX6_spells 45 = .ok (.iconst 0, 1) := by decide +kernel
theorem dX6_spells_46 : decode cX6_spells 46 = .ok (.ireturn, 1) := by decide +kernel
theorem dX6_spells_47 : decode cX6_spells 47 = .ok (.iinc 4 1, 3) := by decide +kernel
theorem dX6_spells_50 : decode cX6_spells 50 = .ok (.goto (-37), 3) := by decide +kernel
theorem dX6_spells_53 : decode cX6_spells 53 = .ok (.iconst 1, 1) := by decide +kernel
theorem dX6_spells_54 : decode cX6_spells 54 = .ok (.ireturn, 1) := by decide +kernel
theorem dX6_countLetters_0 : decode cX6_countLetters 0 = .ok (.iload_n 1, 1) := by decide +kernel
theorem dX6_countLetters_1 : decode cX6_countLetters 1 = .ok (.istore_n 2, 1) := by decide +kernel
theorem dX6_countLetters_2 : decode cX6_countLetters 2 = .ok (.iload_n 2, 1) := by decide +kernel
theorem dX6_countLetters_3 : decode cX6_countLetters 3 = .ok (.aload_n 0, 1) := by decide +kernel
theorem dX6_countLetters_4 : decode cX6_countLetters 4 = .ok (.getfield 15, 3) := by decide +kernel
theorem dX6_countLetters_7 : decode cX6_countLetters 7 = .ok (.if_icmp .ge 20, 3) := by decide +kernel
theorem dX6_countLetters_10 : decode cX6_countLetters 10 = .ok (.aload_n 0, 1) := by decide +kernel
theorem dX6_countLetters_11 : decode cX6_countLetters 11 = .ok (.iload_n 2, 1) := by decide +kernel
theorem dX6_countLetters_12 : decode cX6_countLetters 12 = .ok (.invokevirtual 52, 3) := by decide +kernel
theorem dX6_countLetters_15 : decode cX6_countLetters 15 = .ok (.invokestatic 59, 3) := by decide +kernel
theorem dX6_countLetters_18 : decode cX6_countLetters 18 = .ok (.ifCond .eq 9, 3) := by decide +kernel
theorem dX6_countLetters_21 : decode cX6_countLetters 21 = .ok (.iinc 2 1, 3) := by decide +kernel
theorem dX6_countLetters_24 : decode cX6_countLetters 24 = .ok (.goto (-22), 3) := by decide +kernel
theorem dX6_countLetters_27 : decode cX6_countLetters 27 = .ok (.iload_n 2, 1) := by decide +kernel
theorem dX6_countLetters_28 : decode cX6_countLetters 28 = .ok (.iload_n 1, 1) := by decide +kernel
theorem dX6_countLetters_29 : decode cX6_countLetters 29 = .ok (.isub, 1) := by decide +kernel
theorem dX6_countLetters_30 : decode cX6_countLetters 30 = .ok (.ireturn, 1) := by decide +kernel
theorem dX6_countDigits_0 : decode cX6_countDigits 0 = .ok (.iload_n 1, 1) := by decide +kernel
theorem dX6_countDigits_1 : decode cX6_countDigits 1 = .ok (.istore_n 2, 1) := by decide +kernel
theorem dX6_countDigits_2 : decode cX6_countDigits 2 = .ok (.iload_n 2, 1) := by decide +kernel
theorem dX6_countDigits_3 : decode cX6_countDigits 3 = .ok (.aload_n 0, 1) := by decide +kernel
theorem dX6_countDigits_4 : decode cX6_countDigits 4 = .ok (.getfield 15, 3) := by decide +kernel
theorem dX6_countDigits_7 : decode cX6_countDigits 7 = .ok (.if_icmp .ge 20, 3) := by decide +kernel
theorem dX6_countDigits_10 : decode cX6_countDigits 10 = .ok (.aload_n 0, 1) := by decide +kernel
theorem dX6_countDigits_11 : decode cX6_countDigits 11 = .ok (.iload_n 2, 1) := by decide +kernel
theorem dX6_countDigits_12 : decode cX6_countDigits 12 = .ok (.invokevirtual 52, 3) := by decide +kernel
theorem dX6_countDigits_15 : decode cX6_countDigits 15 = .ok (.invokestatic 63, 3) := by decide +kernel
theorem dX6_countDigits_18 : decode cX6_countDigits 18 = .ok (.ifCond .eq 9, 3) := by decide +kernel
theorem dX6_countDigits_21 : decode cX6_countDigits 21 = .ok (.iinc 2 1, 3) := by decide +kernel
theorem dX6_countDigits_24 : decode cX6_countDigits 24 = .ok (.goto (-22), 3) := by decide +kernel
theorem dX6_countDigits_27 : decode cX6_countDigits 27 = .ok (.iload_n 2, 1) := by decide +kernel
theorem dX6_countDigits_28 : decode cX6_countDigits 28 = .ok (.iload_n 1, 1) := by decide +kernel
theorem dX6_countDigits_29 : decode cX6_countDigits 29 = .ok (.isub, 1) := by decide +kernel
theorem dX6_countDigits_30 : decode cX6_countDigits 30 = .ok (.ireturn, 1) := by decide +kernel
theorem dX6_countSpaces_0 : decode cX6_countSpaces 0 = .ok (.iload_n 1, 1) := by decide +kernel
theorem dX6_countSpaces_1 : decode cX6_countSpaces 1 = .ok (.istore_n 2, 1) := by decide +kernel
theorem dX6_countSpaces_2 : decode cX6_countSpaces 2 = .ok (.iload_n 2, 1) := by decide +kernel
theorem dX6_countSpaces_3 : decode cX6_countSpaces 3 = .ok (.aload_n 0, 1) := by decide +kernel
theorem dX6_countSpaces_4 : decode cX6_countSpaces 4 = .ok (.getfield 15, 3) := by decide +kernel
theorem dX6_countSpaces_7 : decode cX6_countSpaces 7 = .ok (.if_icmp .ge 29, 3) := by decide +kernel
theorem dX6_countSpaces_10 : decode cX6_countSpaces 10 = .ok (.aload_n 0, 1) := by decide +kernel
theorem dX6_countSpaces_11 : decode cX6_countSpaces 11 = .ok (.iload_n 2, 1) := by decide +kernel
theorem dX6_countSpaces_12 : decode cX6_countSpaces 12 = .ok (.invokevirtual 52, 3) := by decide +kernel
theorem dX6_countSpaces_15 : decode cX6_countSpaces 15 = .ok (.bipush 32, 2) := by decide +kernel
theorem dX6_countSpaces_17 : decode cX6_countSpaces 17 = .ok (.if_icmp .eq 13, 3) := by decide +kernel
theorem dX6_countSpaces_20 : decode cX6_countSpaces 20 = .ok (.aload_n 0, 1) := by decide +kernel
theorem dX6_countSpaces_21 : decode cX6_countSpaces 21 = .ok (.iload_n 2, 1) := by decide +kernel
theorem dX6_countSpaces_22 : decode cX6_countSpaces 22 = .ok (.invokevirtual 52, 3) := by decide +kernel
theorem dX6_countSpaces_25 : decode cX6_countSpaces 25 = .ok (.bipush 10, 2) := by decide +kernel
theorem dX6_countSpaces_27 : decode cX6_countSpaces 27 = .ok (.if_icmp .ne 9, 3) := by decide +kernel
theorem dX6_countSpaces_30 : decode cX6_countSpaces 30 = .ok (.iinc 2 1, 3) := by decide +kernel
theorem dX6_countSpaces_33 : decode cX6_countSpaces 33 = .ok (.goto (-31), 3) := by decide +kernel
theorem dX6_countSpaces_36 : decode cX6_countSpaces 36 = .ok (.iload_n 2, 1) := by decide +kernel
theorem dX6_countSpaces_37 : decode cX6_countSpaces 37 = .ok (.iload_n 1, 1) := by decide +kernel
theorem dX6_countSpaces_38 : decode cX6_countSpaces 38 = .ok (.isub, 1) := by decide +kernel
theorem dX6_countSpaces_39 : decode cX6_countSpaces 39 = .ok (.ireturn, 1) := by decide +kernel
theorem dX6_isLetter_0 : decode cX6_isLetter 0 = .ok (.iload_n 0, 1) := by decide +kernel
theorem dX6_isLetter_1 : decode cX6_isLetter 1 = .ok (.bipush 97, 2) := by decide +kernel
theorem dX6_isLetter_3 : decode cX6_isLetter 3 = .ok (.if_icmp .lt 13, 3) := by decide +kernel
theorem dX6_isLetter_6 : decode cX6_isLetter 6 = .ok (.iload_n 0, 1) := by decide +kernel
theorem dX6_isLetter_7 : decode cX6_isLetter 7 = .ok (.bipush 122, 2) := by decide +kernel
theorem dX6_isLetter_9 : decode cX6_isLetter 9 = .ok (.if_icmp .gt 7, 3) := by decide +kernel
theorem dX6_isLetter_12 : decode cX6_isLetter 12 = .ok (.iconst 1, 1) := by decide +kernel
theorem dX6_isLetter_13 : decode cX6_isLetter 13 = .ok (.goto 4, 3) := by decide +kernel
theorem dX6_isLetter_16 : decode cX6_isLetter 16 = .ok (.iconst 0, 1) := by decide +kernel
theorem dX6_isLetter_17 : decode cX6_isLetter 17 = .ok (.ireturn, 1) := by decide +kernel
theorem dX6_isDigit_0 : decode cX6_isDigit 0 = .ok (.iload_n 0, 1) := by decide +kernel
theorem dX6_isDigit_1 : decode cX6_isDigit 1 = .ok (.bipush 48, 2) := by decide +kernel
theorem dX6_isDigit_3 : decode cX6_isDigit 3 = .ok (.if_icmp .lt 13, 3) := by decide +kernel
theorem dX6_isDigit_6 : decode cX6_isDigit 6 = .ok (.iload_n 0, 1) := by decide +kernel
theorem dX6_isDigit_7 : decode cX6_isDigit 7 = .ok (.bipush 57, 2) := by decide +kernel
theorem dX6_isDigit_9 : decode cX6_isDigit 9 = .ok (.if_icmp .gt 7, 3) := by decide +kernel
theorem dX6_isDigit_12 : decode cX6_isDigit 12 = .ok (.iconst 1, 1) := by decide +kernel
theorem dX6_isDigit_13 : decode cX6_isDigit 13 = .ok (.goto 4, 3) := by decide +kernel
theorem dX6_isDigit_16 : decode cX6_isDigit 16 = .ok (.iconst 0, 1) := by decide +kernel
theorem dX6_isDigit_17 : decode cX6_isDigit 17 = .ok (.ireturn, 1) := by decide +kernel
theorem dX7_init_0 : decode cX7_init 0 = .ok (.aload_n 0, 1) := by decide +kernel
theorem dX7_init_1 : decode cX7_init 1 = .ok (.invokespecial 3, 3) := by decide +kernel
theorem dX7_init_4 : decode cX7_init 4 = .ok (.aload_n 0, 1) := by decide +kernel
theorem dX7_init_5 : decode cX7_init 5 = .ok (.sipush 1024, 3) := by decide +kernel
theorem dX7_init_8 : decode cX7_init 8 = .ok (.newarray .int, 2) := by decide +kernel
theorem dX7_init_10 : decode cX7_init 10 = .ok (.putfield 9, 3) := by decide +kernel
theorem dX7_init_13 : decode cX7_init 13 = .ok (.return_, 1) := by decide +kernel
theorem dX7_byteAt_0 : decode cX7_byteAt 0 = .ok (.iload_n 1, 1) := by decide +kernel
theorem dX7_byteAt_1 : decode cX7_byteAt 1 = .ok (.ifCond .lt 20, 3) := by decide +kernel
theorem dX7_byteAt_4 : decode cX7_byteAt 4 = .ok (.iload_n 1, 1) := by decide +kernel
theorem dX7_byteAt_5 : decode cX7_byteAt 5 = .ok (.aload_n 0, 1) := by decide +kernel
theorem dX7_byteAt_6 : decode cX7_byteAt 6 = .ok (.getfield 15, 3) := by decide +kernel
theorem dX7_byteAt_9 : decode cX7_byteAt 9 = .ok (.if_icmp .ge 12, 3) := by decide +kernel
theorem dX7_byteAt_12 : decode cX7_byteAt 12 = .ok (.aload_n 0, 1) := by decide +kernel
theorem dX7_byteAt_13 : decode cX7_byteAt 13 = .ok (.getfield 9, 3) := by decide +kernel
theorem dX7_byteAt_16 : decode cX7_byteAt 16 = .ok (.iload_n 1, 1) := by decide +kernel
theorem dX7_byteAt_17 : decode cX7_byteAt 17 = .ok (.iaload, 1) := by decide +kernel
theorem dX7_byteAt_18 : decode cX7_byteAt 18 = .ok (.goto 5, 3) := by decide +kernel
theorem dX7_byteAt_21 : decode cX7_byteAt 21 = .ok (.bipush (-2), 2) := by decide +kernel
theorem dX7_byteAt_23 : decode cX7_byteAt 23 = .ok (.ireturn, 1) := by decide +kernel
theorem dX7_writeList_0 : decode cX7_writeList 0 = .ok (.aload_n 0, 1) := by decide +kernel
theorem dX7_writeList_1 : decode cX7_writeList 1 = .ok (.iconst 0, 1) := by decide +kernel
theorem dX7_writeList_2 : decode cX7_writeList 2 = .ok (.putfield 15, 3) := by decide +kernel
theorem dX7_writeList_5 : decode cX7_writeList 5 = .ok (.iconst 0, 1) := by decide +kernel
theorem dX7_writeList_6 : decode cX7_writeList 6 = .ok (.istore_n 3, 1) := by decide +kernel
theorem dX7_writeList_7 : decode cX7_writeList 7 = .ok (.iload_n 3, 1) := by decide +kernel
theorem dX7_writeList_8 : decode cX7_writeList 8 = .ok (.aload_n 1, 1) := by decide +kernel
theorem dX7_writeList_9 : decode cX7_writeList 9 = .ok (.getfield 19, 3) := by decide +kernel
theorem dX7_writeList_12 : decode cX7_writeList 12 = .ok (.if_icmp .ge 78, 3) := by decide +kernel
theorem dX7_writeList_15 : decode cX7_writeList 15 = .ok (.aload_n 0, 1) := by decide +kernel
theorem dX7_writeList_16 : decode cX7_writeList 16 = .ok (.aload_n 1, 1) := by decide +kernel
theorem dX7_writeList_17 : decode cX7_writeList 17 = .ok (.iload_n 3, 1) := by decide +kernel
theorem dX7_writeList_18 : decode cX7_writeList 18 = .ok (.invokevirtual 24, 3) := by decide +kernel
theorem dX7_writeList_21 : decode cX7_writeList 21 = .ok (.aload_n 0, 1) := by decide +kernel
theorem dX7_writeList_22 : decode cX7_writeList 22 = .ok (.bipush 32, 2) := by decide +kernel
theorem dX7_writeList_24 : decode cX7_writeList 24 = .ok (.invokevirtual 28, 3) := by decide +kernel
theorem dX7_writeList_27 : decode cX7_writeList 27 = .ok (.aload_n 0, 1) := by decide +kernel
theorem dX7_writeList_28 : decode cX7_writeList 28 = .ok (.aload_n 2, 1) := by decide +kernel
theorem dX7_writeList_29 : decode cX7_writeList 29 = .ok (.iload_n 3, 1) := by decide +kernel
theorem dX7_writeList_30 : decode cX7_writeList 30 = .ok (.invokevirtual 32, 3) := by decide +kernel
theorem dX7_writeList_33 : decode cX7_writeList 33 = .ok (.invokevirtual 38, 3) := by decide +kernel
theorem dX7_writeList_36 : decode cX7_writeList 36 = .ok (.aload_n 2, 1) := by decide +kernel
theorem dX7_writeList_37 : decode cX7_writeList 37 = .ok (.iload_n 3, 1) := by decide +kernel
theorem dX7_writeList_38 : decode cX7_writeList 38 = .ok (.invokevirtual 41, 3) := by decide +kernel
theorem dX7_writeList_41 : decode cX7_writeList 41 = .ok (.aload_n 2, 1) := by decide +kernel
theorem dX7_writeList_42 : decode cX7_writeList 42 = .ok (.iload_n 3, 1) := by decide +kernel
theorem dX7_writeList_43 : decode cX7_writeList 43 = .ok (.invokevirtual 32, 3) := by decide +kernel
theorem dX7_writeList_46 : decode cX7_writeList 46 = .ok (.if_icmp .eq 18, 3) := by decide +kernel
theorem dX7_writeList_49 : decode cX7_writeList 49 = .ok (.aload_n 0, 1) := by decide +kernel
theorem dX7_writeList_50 : decode cX7_writeList 50 = .ok (.bipush 45, 2) := by decide +kernel
theorem dX7_writeList_52 : decode cX7_writeList 52 = .ok (.invokevirtual 28, 3) := by decide +kernel
theorem dX7_writeList_55 : decode cX7_writeList 55 = .ok (.aload_n 0, 1) := by decide +kernel
theorem dX7_writeList_56 : decode cX7_writeList 56 = .ok (.aload_n 2, 1) := by decide +kernel
theorem dX7_writeList_57 : decode cX7_writeList 57 = .ok (.iload_n 3, 1) := by decide +kernel
theorem dX7_writeList_58 : decode cX7_writeList 58 = .ok (.invokevirtual 41, 3) := by decide +kernel
theorem dX7_writeList_61 : decode cX7_writeList 61 = .ok (.invokevirtual 38, 3) := by decide +kernel
theorem dX7_writeList_64 : decode cX7_writeList 64 = .ok (.aload_n 1, 1) := by decide +kernel
theorem dX7_writeList_65 : decode cX7_writeList 65 = .ok (.iload_n 3, 1) := by decide +kernel
theorem dX7_writeList_66 : decode cX7_writeList 66 = .ok (.invokevirtual 44, 3) := by decide +kernel
theorem dX7_writeList_69 : decode cX7_writeList 69 = .ok (.ifCond .eq 9, 3) := by decide +kernel
theorem dX7_writeList_72 : decode cX7_writeList 72 = .ok (.aload_n 0, 1) := by decide +kernel
theorem dX7_writeList_73 : decode cX7_writeList 73 = .ok (.bipush 33, 2) := by decide +kernel
theorem dX7_writeList_75 : decode cX7_writeList 75 = .ok (.invokevirtual 28, 3) := by decide +kernel
theorem dX7_writeList_78 : decode cX7_writeList 78 = .ok (.aload_n 0, 1) := by decide +kernel
theorem dX7_writeList_79 : decode cX7_writeList 79 = .ok (.bipush 10, 2) := by decide +kernel
theorem dX7_writeList_81 : decode cX7_writeList 81 = .ok (.invokevirtual 28, 3) := by decide +kernel
theorem dX7_writeList_84 : decode cX7_writeList 84 = .ok (.iinc 3 1, 3) := by decide +kernel
theorem dX7_writeList_87 : decode cX7_writeList 87 = .ok (.goto (-80), 3) := by decide +kernel
theorem dX7_writeList_90 : decode cX7_writeList 90 = .ok (.return_, 1) := by decide +kernel
theorem dX7_writeSetup_0 : decode cX7_writeSetup 0 = .ok (.aload_n 0, 1) := by decide +kernel
theorem dX7_writeSetup_1 : decode cX7_writeSetup 1 = .ok (.iconst 0, 1) := by decide +kernel
theorem dX7_writeSetup_2 : decode cX7_writeSetup 2 = .ok (.putfield 15, 3) := by decide +kernel
theorem dX7_writeSetup_5 : decode cX7_writeSetup 5 = .ok (.aload_n 0, 1) := by decide +kernel
theorem dX7_writeSetup_6 : decode cX7_writeSetup 6 = .ok (.ldc 48, 2) := by decide +kernel
theorem dX7_writeSetup_8 : decode cX7_writeSetup 8 = .ok (.invokevirtual 50, 3) := by decide +kernel
theorem dX7_writeSetup_11 : decode cX7_writeSetup 11 = .ok (.aload_n 0, 1) := by decide +kernel
theorem dX7_writeSetup_12 : decode cX7_writeSetup 12 = .ok (.aload_n 1, 1) := by decide +kernel
theorem dX7_writeSetup_13 : decode cX7_writeSetup 13 = .ok (.getfield 54, 3) := by decide +kernel
theorem dX7_writeSetup_16 : decode cX7_writeSetup 16 = .ok (.invokevirtual 38, 3) := by decide +kernel
theorem dX7_writeSetup_19 : decode cX7_writeSetup 19 = .ok (.aload_n 0, 1) := by decide +kernel
theorem dX7_writeSetup_20 : decode cX7_writeSetup 20 = .ok (.bipush 59, 2) := by decide +kernel
theorem dX7_writeSetup_22 : decode cX7_writeSetup 22 = .ok (.invokevirtual 28, 3) := by decide +kernel
theorem dX7_writeSetup_25 : decode cX7_writeSetup 25 = .ok (.iconst 1, 1) := by decide +kernel
theorem dX7_writeSetup_26 : decode cX7_writeSetup 26 = .ok (.istore_n 2, 1) := by decide +kernel
theorem dX7_writeSetup_27 : decode cX7_writeSetup 27 = .ok (.iload_n 2, 1) := by decide +kernel
theorem dX7_writeSetup_28 : decode cX7_writeSetup 28 = .ok (.aload_n 1, 1) := by decide +kernel
theorem dX7_writeSetup_29 : decode cX7_writeSetup 29 = .ok (.getfield 19, 3) := by decide +kernel
theorem dX7_writeSetup_32 : decode cX7_writeSetup 32 = .ok (.if_icmp .ge 27, 3) := by decide +kernel
theorem dX7_writeSetup_35 : decode cX7_writeSetup 35 = .ok (.aload_n 0, 1) := by decide +kernel
theorem dX7_writeSetup_36 : decode cX7_writeSetup 36 = .ok (.ldc 57, 2) := by decide +kernel
theorem dX7_writeSetup_38 : decode cX7_writeSetup 38 = .ok (.invokevirtual 50, 3) := by decide +kernel
theorem dX7_writeSetup_41 : decode cX7_writeSetup 41 = .ok (.aload_n 0, 1) := by decide +kernel
theorem dX7_writeSetup_42 : decode cX7_writeSetup 42 = .ok (.aload_n 1, 1) := by decide +kernel
theorem dX7_writeSetup_43 : decode cX7_writeSetup 43 = .ok (.iload_n 2, 1) := by decide +kernel
theorem dX7_writeSetup_44 : decode cX7_writeSetup 44 = .ok (.invokevirtual 24, 3) := by decide +kernel
theorem dX7_writeSetup_47 : decode cX7_writeSetup 47 = .ok (.aload_n 0, 1) := by decide +kernel
theorem dX7_writeSetup_48 : decode cX7_writeSetup 48 = .ok (.bipush 59, 2) := by decide +kernel
theorem dX7_writeSetup_50 : decode cX7_writeSetup 50 = .ok (.invokevirtual 28, 3) := by decide +kernel
theorem dX7_writeSetup_53 : decode cX7_writeSetup 53 = .ok (.iinc 2 1, 3) := by decide +kernel
theorem dX7_writeSetup_56 : decode cX7_writeSetup 56 = .ok (.goto (-29), 3) := by decide +kernel
theorem dX7_writeSetup_59 : decode cX7_writeSetup 59 = .ok (.iconst 0, 1) := by decide +kernel
theorem dX7_writeSetup_60 : decode cX7_writeSetup 60 = .ok (.istore_n 2, 1) := by decide +kernel
theorem dX7_writeSetup_61 : decode cX7_writeSetup 61 = .ok (.iload_n 2, 1) := by decide +kernel
theorem dX7_writeSetup_62 : decode cX7_writeSetup 62 = .ok (.aload_n 1, 1) := by decide +kernel
theorem dX7_writeSetup_63 : decode cX7_writeSetup 63 = .ok (.getfield 59, 3) := by decide +kernel
theorem dX7_writeSetup_66 : decode cX7_writeSetup 66 = .ok (.if_icmp .ge 15, 3) := by decide +kernel
theorem dX7_writeSetup_69 : decode cX7_writeSetup 69 = .ok (.aload_n 0, 1) := by decide +kernel
theorem dX7_writeSetup_70 : decode cX7_writeSetup 70 = .ok (.aload_n 1, 1) := by decide +kernel
theorem dX7_writeSetup_71 : decode cX7_writeSetup 71 = .ok (.iload_n 2, 1) := by decide +kernel
theorem dX7_writeSetup_72 : decode cX7_writeSetup 72 = .ok (.invokevirtual 62, 3) := by decide +kernel
theorem dX7_writeSetup_75 : decode cX7_writeSetup 75 = .ok (.iinc 2 1, 3) := by decide +kernel
theorem dX7_writeSetup_78 : decode cX7_writeSetup 78 = .ok (.goto (-17), 3) := by decide +kernel
theorem dX7_writeSetup_81 : decode cX7_writeSetup 81 = .ok (.iconst 1, 1) := by decide +kernel
theorem dX7_writeSetup_82 : decode cX7_writeSetup 82 = .ok (.istore_n 2, 1) := by decide +kernel
theorem dX7_writeSetup_83 : decode cX7_writeSetup 83 = .ok (.iload_n 2, 1) := by decide +kernel
theorem dX7_writeSetup_84 : decode cX7_writeSetup 84 = .ok (.aload_n 1, 1) := by decide +kernel
theorem dX7_writeSetup_85 : decode cX7_writeSetup 85 = .ok (.getfield 19, 3) := by decide +kernel
theorem dX7_writeSetup_88 : decode cX7_writeSetup 88 = .ok (.if_icmp .ge 51, 3) := by decide +kernel
theorem dX7_writeSetup_91 : decode cX7_writeSetup 91 = .ok (.aload_n 1, 1) := by decide +kernel
theorem dX7_writeSetup_92 : decode cX7_writeSetup 92 = .ok (.iload_n 2, 1) := by decide +kernel
theorem dX7_writeSetup_93 : decode cX7_writeSetup 93 = .ok (.invokevirtual 44, 3) := by decide +kernel
theorem dX7_writeSetup_96 : decode cX7_writeSetup 96 = .ok (.ifCond .eq 37, 3) := by decide +kernel
theorem dX7_writeSetup_99 : decode cX7_writeSetup 99 = .ok (.aload_n 0, 1) := by decide +kernel
theorem dX7_writeSetup_100 : decode cX7_writeSetup 100 = .ok (.ldc 65, 2) := by decide +kernel
theorem dX7_writeSetup_102 : decode cX7_writeSetup 102 = .ok (.invokevirtual 50, 3) := by decide +kernel
theorem dX7_writeSetup_105 : decode cX7_writeSetup 105 = .ok (.aload_n 0, 1) := by decide +kernel
theorem dX7_writeSetup_106 : decode cX7_writeSetup 106 = .ok (.aload_n 1, 1) := by decide +kernel
theorem dX7_writeSetup_107 : decode cX7_writeSetup 107 = .ok (.iload_n 2, 1) := by decide +kernel
theorem dX7_writeSetup_108 : decode cX7_writeSetup 108 = .ok (.invokevirtual 24, 3) := by decide +kernel
theorem dX7_writeSetup_111 : decode cX7_writeSetup 111 = .ok (.aload_n 0, 1) := by decide +kernel
theorem dX7_writeSetup_112 : decode cX7_writeSetup 112 = .ok (.bipush 32, 2) := by decide +kernel
theorem dX7_writeSetup_114 : decode cX7_writeSetup 114 = .ok (.invokevirtual 28, 3) := by decide +kernel
theorem dX7_writeSetup_117 : decode cX7_writeSetup 117 = .ok (.aload_n 0, 1) := by decide +kernel
theorem dX7_writeSetup_118 : decode cX7_writeSetup 118 = .ok (.aload_n 1, 1) := by decide +kernel
theorem dX7_writeSetup_119 : decode cX7_writeSetup 119 = .ok (.getfield 67, 3) := by decide +kernel
theorem dX7_writeSetup_122 : decode cX7_writeSetup 122 = .ok (.iload_n 2, 1) := by decide +kernel
theorem dX7_writeSetup_123 : decode cX7_writeSetup 123 = .ok (.iaload, 1) := by decide +kernel
theorem dX7_writeSetup_124 : decode cX7_writeSetup 124 = .ok (.invokevirtual 38, 3) := by decide +kernel
theorem dX7_writeSetup_127 : decode cX7_writeSetup 127 = .ok (.aload_n 0, 1) := by decide +kernel
theorem dX7_writeSetup_128 : decode cX7_writeSetup 128 = .ok (.bipush 59, 2) := by decide +kernel
theorem dX7_writeSetup_130 : decode cX7_writeSetup 130 = .ok (.invokevirtual 28, 3) := by decide +kernel
theorem dX7_writeSetup_133 : decode cX7_writeSetup 133 = .ok (.iinc 2 1, 3) := by decide +kernel
theorem dX7_writeSetup_136 : decode cX7_writeSetup 136 = .ok (.goto (-53), 3) := by decide +kernel
theorem dX7_writeSetup_139 : decode cX7_writeSetup 139 = .ok (.return_, 1) := by decide +kernel
theorem dX7_putGap_0 : decode cX7_putGap 0 = .ok (.aload_n 0, 1) := by decide +kernel
theorem dX7_putGap_1 : decode cX7_putGap 1 = .ok (.ldc 70, 2) := by decide +kernel
theorem dX7_putGap_3 : decode cX7_putGap 3 = .ok (.invokevirtual 50, 3) := by decide +kernel
theorem dX7_putGap_6 : decode cX7_putGap 6 = .ok (.aload_n 0, 1) := by decide +kernel
theorem dX7_putGap_7 : decode cX7_putGap 7 = .ok (.aload_n 1, 1) := by decide +kernel
theorem dX7_putGap_8 : decode cX7_putGap 8 = .ok (.aload_n 1, 1) := by decide +kernel
theorem dX7_putGap_9 : decode cX7_putGap 9 = .ok (.getfield 72, 3) := by decide +kernel
theorem dX7_putGap_12 : decode cX7_putGap 12 = .ok (.iload_n 2, 1) := by decide +kernel
theorem dX7_putGap_13 : decode cX7_putGap 13 = .ok (.iaload, 1) := by decide +kernel
theorem dX7_putGap_14 : decode cX7_putGap 14 = .ok (.invokevirtual 24, 3) := by decide +kernel
theorem dX7_putGap_17 : decode cX7_putGap 17 = .ok (.aload_n 0, 1) := by decide +kernel
theorem dX7_putGap_18 : decode cX7_putGap 18 = .ok (.bipush 32, 2) := by decide +kernel
theorem dX7_putGap_20 : decode cX7_putGap 20 = .ok (.invokevirtual 28, 3) := by decide +kernel
theorem dX7_putGap_23 : decode cX7_putGap 23 = .ok (.aload_n 0, 1) := by decide +kernel
theorem dX7_putGap_24 : decode cX7_putGap 24 = .ok (.aload_n 1, 1) := by decide +kernel
theorem dX7_putGap_25 : decode cX7_putGap 25 = .ok (.aload_n 1, 1) := by decide +kernel
theorem dX7_putGap_26 : decode cX7_putGap 26 = .ok (.getfield 75, 3) := by decide +kernel
theorem dX7_putGap_29 : decode cX7_putGap 29 = .ok (.iload_n 2, 1) := by decide +kernel
theorem dX7_putGap_30 : decode cX7_putGap 30 = .ok (.iaload, 1) := by decide +kernel
theorem dX7_putGap_31 : decode cX7_putGap 31 = .ok (.invokevirtual 24, 3) := by decide +kernel
theorem dX7_putGap_34 : decode cX7_putGap 34 = .ok (.aload_n 0, 1) := by decide +kernel
theorem dX7_putGap_35 : decode cX7_putGap 35 = .ok (.aload_n 1, 1) := by decide +kernel
theorem dX7_putGap_36 : decode cX7_putGap 36 = .ok (.getfield 78, 3) := by decide +kernel
theorem dX7_putGap_39 : decode cX7_putGap 39 = .ok (.iload_n 2, 1) := by decide +kernel
theorem dX7_putGap_40 : decode cX7_putGap 40 = .ok (.iaload, 1) := by decide +kernel
theorem dX7_putGap_41 : decode cX7_putGap 41 = .ok (.ifCond .ne 8, 3) := by decide +kernel
theorem dX7_putGap_44 : decode cX7_putGap 44 = .ok (.ldc 81, 2) := by decide +kernel
theorem dX7_putGap_46 : decode cX7_putGap 46 = .ok (.goto 5, 3) := by decide +kernel
theorem dX7_putGap_49 : decode cX7_putGap 49 = .ok (.ldc 83, 2) := by decide +kernel
theorem dX7_putGap_51 : decode cX7_putGap 51 = .ok (.invokevirtual 50, 3) := by decide +kernel
theorem dX7_putGap_54 : decode cX7_putGap 54 = .ok (.aload_n 0, 1) := by decide +kernel
theorem dX7_putGap_55 : decode cX7_putGap 55 = .ok (.aload_n 1, 1) := by decide +kernel
theorem dX7_putGap_56 : decode cX7_putGap 56 = .ok (.getfield 85, 3) := by decide +kernel
theorem dX7_putGap_59 : decode cX7_putGap 59 = .ok (.iload_n 2, 1) := by decide +kernel
theorem dX7_putGap_60 : decode cX7_putGap 60 = .ok (.iaload, 1) := by decide +kernel
theorem dX7_putGap_61 : decode cX7_putGap 61 = .ok (.invokevirtual 38, 3) := by decide +kernel
theorem dX7_putGap_64 : decode cX7_putGap 64 = .ok (.aload_n 1, 1) := by decide +kernel
theorem dX7_putGap_65 : decode cX7_putGap 65 = .ok (.getfield 88, 3) := by decide +kernel
theorem dX7_putGap_68 : decode cX7_putGap 68 = .ok (.iload_n 2, 1) := by decide +kernel
theorem dX7_putGap_69 : decode cX7_putGap 69 = .ok (.baload, 1) := by decide +kernel
theorem dX7_putGap_70 : decode cX7_putGap 70 = .ok (.ifCond .ne 9, 3) := by decide +kernel
theorem dX7_putGap_73 : decode cX7_putGap 73 = .ok (.aload_n 0, 1) := by decide +kernel
theorem dX7_putGap_74 : decode cX7_putGap 74 = .ok (.ldc 92, 2) := by decide +kernel
theorem dX7_putGap_76 : decode cX7_putGap 76 = .ok (.invokevirtual 50, 3) := by decide +kernel
theorem dX7_putGap_79 : decode cX7_putGap 79 = .ok (.aload_n 0, 1) := by decide +kernel
theorem dX7_putGap_80 : decode cX7_putGap 80 = .ok (.bipush 59, 2) := by decide +kernel
theorem dX7_putGap_82 : decode cX7_putGap 82 = .ok (.invokevirtual 28, 3) := by decide +kernel
theorem dX7_putGap_85 : decode cX7_putGap 85 = .ok (.return_, 1) := by decide +kernel
theorem dX7_putName_0 : decode cX7_putName 0 = .ok (.iconst 0, 1) := by decide +kernel
theorem dX7_putName_1 : decode cX7_putName 1 = .ok (.istore_n 3, 1) := by decide +kernel
theorem dX7_putName_2 : decode cX7_putName 2 = .ok (.iload_n 3, 1) := by decide +kernel
theorem dX7_putName_3 : decode cX7_putName 3 = .ok (.aload_n 1, 1) := by decide +kernel
theorem dX7_putName_4 : decode cX7_putName 4 = .ok (.getfield 94, 3) := by decide +kernel
theorem dX7_putName_7 : decode cX7_putName 7 = .ok (.iload_n 2, 1) := by decide +kernel
theorem dX7_putName_8 : decode cX7_putName 8 = .ok (.iaload, 1) := by decide +kernel
theorem dX7_putName_9 : decode cX7_putName 9 = .ok (.if_icmp .ge 19, 3) := by decide +kernel
theorem dX7_putName_12 : decode cX7_putName 12 = .ok (.aload_n 0, 1) := by decide +kernel
theorem dX7_putName_13 : decode cX7_putName 13 = .ok (.aload_n 1, 1) := by decide +kernel
theorem dX7_putName_14 : decode cX7_putName 14 = .ok (.iload_n 2, 1) := by decide +kernel
theorem dX7_putName_15 : decode cX7_putName 15 = .ok (.iload_n 3, 1) := by decide +kernel
theorem dX7_putName_16 : decode cX7_putName 16 = .ok (.invokevirtual 97, 3) := by decide +kernel
theorem dX7_putName_19 : decode cX7_putName 19 = .ok (.invokevirtual 28, 3) := by decide +kernel
theorem dX7_putName_22 : decode cX7_putName 22 = .ok (.iinc 3 1, 3) := by decide +kernel
theorem dX7_putName_25 : decode cX7_putName 25 = .ok (.goto (-23), 3) := by decide +kernel
theorem dX7_putName_28 : decode cX7_putName 28 = .ok (.return_, 1) := by decide +kernel
theorem dX7_putWord_0 : decode cX7_putWord 0 = .ok (.iconst 0, 1) := by decide +kernel
theorem dX7_putWord_1 : decode cX7_putWord 1 = .ok (.istore_n 2, 1) := by decide +kernel
theorem dX7_putWord_2 : decode cX7_putWord 2 = .ok (.iload_n 2, 1) := by decide +kernel
theorem dX7_putWord_3 : decode cX7_putWord 3 = .ok (.aload_n 1, 1) := by decide +kernel
theorem dX7_putWord_4 : decode cX7_putWord 4 = .ok (.invokevirtual 101, 3) := by decide +kernel
theorem dX7_putWord_7 : decode cX7_putWord 7 = .ok (.if_icmp .ge 18, 3) := by decide +kernel
theorem dX7_putWord_10 : decode cX7_putWord 10 = .ok (.aload_n 0, 1) := by decide +kernel
theorem dX7_putWord_11 : decode cX7_putWord 11 = .ok (.aload_n 1, 1) := by decide +kernel
theorem dX7_putWord_12 : decode cX7_putWord 12 = .ok (.iload_n 2, 1) := by decide +kernel
theorem dX7_putWord_13 : decode cX7_putWord 13 = .ok (.invokevirtual 106, 3) := by decide +kernel
theorem dX7_putWord_16 : decode cX7_putWord 16 = .ok (.invokevirtual 28, 3) := by decide +kernel
theorem dX7_putWord_19 : decode cX7_putWord 19 = .ok (.iinc 2 1, 3) := by decide +kernel
theorem dX7_putWord_22 : decode cX7_putWord 22 = .ok (.goto (-20), 3) := by decide +kernel
theorem dX7_putWord_25 : decode cX7_putWord 25 = .ok (.return_, 1) := by decide +kernel
theorem dX7_putNumber_0 : decode cX7_putNumber 0 = .ok (.iload_n 1, 1) := by decide +kernel
theorem dX7_putNumber_1 : decode cX7_putNumber 1 = .ok (.bipush 100, 2) := by decide +kernel
theorem dX7_putNumber_3 : decode cX7_putNumber 3 = .ok (.if_icmp .lt 17, 3) := by decide +kernel
theorem dX7_putNumber_6 : decode cX7_putNumber 6 = .ok (.aload_n 0, 1) := by decide +kernel
theorem dX7_putNumber_7 : decode cX7_putNumber 7 = .ok (.bipush 48, 2) := by decide +kernel
theorem dX7_putNumber_9 : decode cX7_putNumber 9 = .ok (.iload_n 1, 1) := by decide +kernel
theorem dX7_putNumber_10 : decode cX7_putNumber 10 = .ok (.bipush 100, 2) := by decide +kernel
theorem dX7_putNumber_12 : decode cX7_putNumber 12 = .ok (.idiv, 1) := by decide +kernel
theorem dX7_putNumber_13 : decode cX7_putNumber 13 = .ok (.bipush 10, 2) := by decide +kernel
theorem dX7_putNumber_15 : decode cX7_putNumber 15 = .ok (.irem, 1) := by decide +kernel
theorem dX7_putNumber_16 : decode cX7_putNumber 16 = .ok (.iadd, 1) := by decide +kernel
theorem dX7_putNumber_17 : decode cX7_putNumber 17 = .ok (.invokevirtual 28, 3) := by decide +kernel
theorem dX7_putNumber_20 : decode cX7_putNumber 20 = .ok (.iload_n 1, 1) := by decide +kernel
theorem dX7_putNumber_21 : decode cX7_putNumber 21 = .ok (.bipush 10, 2) := by decide +kernel
theorem dX7_putNumber_23 : decode cX7_putNumber 23 = .ok (.if_icmp .lt 17, 3) := by decide +kernel
theorem dX7_putNumber_26 : decode cX7_putNumber 26 = .ok (.aload_n 0, 1) := by decide +kernel
theorem dX7_putNumber_27 : decode cX7_putNumber 27 = .ok (.bipush 48, 2) := by decide +kernel
theorem dX7_putNumber_29 : decode cX7_putNumber 29 = .ok (.iload_n 1, 1) := by decide +kernel
theorem dX7_putNumber_30 : decode cX7_putNumber 30 = .ok (.bipush 10, 2) := by decide +kernel
theorem dX7_putNumber_32 : decode cX7_putNumber 32 = .ok (.idiv, 1) := by decide +kernel
theorem dX7_putNumber_33 : decode cX7_putNumber 33 = .ok (.bipush 10, 2) := by decide +kernel
theorem dX7_putNumber_35 : decode cX7_putNumber 35 = .ok (.irem, 1) := by decide +kernel
theorem dX7_putNumber_36 : decode cX7_putNumber 36 = .ok (.iadd, 1) := by decide +kernel
theorem dX7_putNumber_37 : decode cX7_putNumber 37 = .ok (.invokevirtual 28, 3) := by decide +kernel
theorem dX7_putNumber_40 : decode cX7_putNumber 40 = .ok (.aload_n 0, 1) := by decide +kernel
theorem dX7_putNumber_41 : decode cX7_putNumber 41 = .ok (.bipush 48, 2) := by decide +kernel
theorem dX7_putNumber_43 : decode cX7_putNumber 43 = .ok (.iload_n 1, 1) := by decide +kernel
theorem dX7_putNumber_44 : decode cX7_putNumber 44 = .ok (.bipush 10, 2) := by decide +kernel
theorem dX7_putNumber_46 : decode cX7_putNumber 46 = .ok (.irem, 1) := by decide +kernel
theorem dX7_putNumber_47 : decode cX7_putNumber 47 = .ok (.iadd, 1) := by decide +kernel
theorem dX7_putNumber_48 : decode cX7_putNumber 48 = .ok (.invokevirtual 28, 3) := by decide +kernel
theorem dX7_putNumber_51 : decode cX7_putNumber 51 = .ok (.return_, 1) := by decide +kernel
theorem dX7_put_0 : decode cX7_put 0 = .ok (.aload_n 0, 1) := by decide +kernel
theorem dX7_put_1 : decode cX7_put 1 = .ok (.getfield 15, 3) := by decide +kernel
theorem dX7_put_4 : decode cX7_put 4 = .ok (.sipush 1024, 3) := by decide +kernel
theorem dX7_put_7 : decode cX7_put 7 = .ok (.if_icmp .ge 23, 3) := by decide +kernel
theorem dX7_put_10 : decode cX7_put 10 = .ok (.aload_n 0, 1) := by decide +kernel
theorem dX7_put_11 : decode cX7_put 11 = .ok (.getfield 9, 3) := by decide +kernel
theorem dX7_put_14 : decode cX7_put 14 = .ok (.aload_n 0, 1) := by decide +kernel
theorem dX7_put_15 : decode cX7_put 15 = .ok (.getfield 15, 3) := by decide +kernel
theorem dX7_put_18 : decode cX7_put 18 = .ok (.iload_n 1, 1) := by decide +kernel
theorem dX7_put_19 : decode cX7_put 19 = .ok (.iastore, 1) := by decide +kernel
theorem dX7_put_20 : decode cX7_put 20 = .ok (.aload_n 0, 1) := by decide +kernel
theorem dX7_put_21 : decode cX7_put 21 = .ok (.dup, 1) := by decide +kernel
theorem dX7_put_22 : decode cX7_put 22 = .ok (.getfield 15, 3) := by decide +kernel
theorem dX7_put_25 : decode cX7_put 25 = .ok (.iconst 1, 1) := by decide +kernel
theorem dX7_put_26 : decode cX7_put 26 = .ok (.iadd, 1) := by decide +kernel
theorem dX7_put_27 : decode cX7_put 27 = .ok (.putfield 15, 3) := by decide +kernel
theorem dX7_put_30 : decode cX7_put 30 = .ok (.return_, 1) := by decide +kernel
theorem dX8_init_0 : decode cX8_init 0 = .ok (.aload_n 0, 1) := by decide +kernel
theorem dX8_init_1 : decode cX8_init 1 = .ok (.invokespecial 3, 3) := by decide +kernel
theorem dX8_init_4 : decode cX8_init 4 = .ok (.aload_n 0, 1) := by decide +kernel
theorem dX8_init_5 : decode cX8_init 5 = .ok (.new 9, 3) := by decide +kernel
theorem dX8_init_8 : decode cX8_init 8 = .ok (.dup, 1) := by decide +kernel
theorem dX8_init_9 : decode cX8_init 9 = .ok (.invokespecial 11, 3) := by decide +kernel
theorem dX8_init_12 : decode cX8_init 12 = .ok (.putfield 12, 3) := by decide +kernel
theorem dX8_init_15 : decode cX8_init 15 = .ok (.aload_n 0, 1) := by decide +kernel
theorem dX8_init_16 : decode cX8_init 16 = .ok (.new 16, 3) := by decide +kernel
theorem dX8_init_19 : decode cX8_init 19 = .ok (.dup, 1) := by decide +kernel
theorem dX8_init_20 : decode cX8_init 20 = .ok (.invokespecial 18, 3) := by decide +kernel
theorem dX8_init_23 : decode cX8_init 23 = .ok (.putfield 19, 3) := by decide +kernel
theorem dX8_init_26 : decode cX8_init 26 = .ok (.aload_n 0, 1) := by decide +kernel
theorem dX8_init_27 : decode cX8_init 27 = .ok (.new 16, 3) := by decide +kernel
theorem dX8_init_30 : decode cX8_init 30 = .ok (.dup, 1) := by decide +kernel
theorem dX8_init_31 : decode cX8_init 31 = .ok (.invokespecial 18, 3) := by decide +kernel
theorem dX8_init_34 : decode cX8_init 34 = .ok (.putfield 23, 3) := by decide +kernel
theorem dX8_init_37 : decode cX8_init 37 = .ok (.aload_n 0, 1) := by decide +kernel
theorem dX8_init_38 : decode cX8_init 38 = .ok (.new 26, 3) := by decide +kernel
theorem dX8_init_41 : decode cX8_init 41 = .ok (.dup, 1) := by decide +kernel
theorem dX8_init_42 : decode cX8_init 42 = .ok (.invokespecial 28, 3) := by decide +kernel
theorem dX8_init_45 : decode cX8_init 45 = .ok (.putfield 29, 3) := by decide +kernel
theorem dX8_init_48 : decode cX8_init 48 = .ok (.aload_n 0, 1) := by decide +kernel
theorem dX8_init_49 : decode cX8_init 49 = .ok (.new 33, 3) := by decide +kernel
theorem dX8_init_52 : decode cX8_init 52 = .ok (.dup, 1) := by decide +kernel
theorem dX8_init_53 : decode cX8_init 53 = .ok (.invokespecial 35, 3) := by decide +kernel
theorem dX8_init_56 : decode cX8_init 56 = .ok (.putfield 36, 3) := by decide +kernel
theorem dX8_init_59 : decode cX8_init 59 = .ok (.aload_n 0, 1) := by decide +kernel
theorem dX8_init_60 : decode cX8_init 60 = .ok (.new 40, 3) := by decide +kernel
theorem dX8_init_63 : decode cX8_init 63 = .ok (.dup, 1) := by decide +kernel
theorem dX8_init_64 : decode cX8_init 64 = .ok (.invokespecial 42, 3) := by decide +kernel
theorem dX8_init_67 : decode cX8_init 67 = .ok (.putfield 43, 3) := by decide +kernel
theorem dX8_init_70 : decode cX8_init 70 = .ok (.aload_n 0, 1) := by decide +kernel
theorem dX8_init_71 : decode cX8_init 71 = .ok (.aload_n 0, 1) := by decide +kernel
theorem dX8_init_72 : decode cX8_init 72 = .ok (.getfield 43, 3) := by decide +kernel
theorem dX8_init_75 : decode cX8_init 75 = .ok (.getfield 47, 3) := by decide +kernel
theorem dX8_init_78 : decode cX8_init 78 = .ok (.putfield 51, 3) := by decide +kernel
theorem dX8_init_81 : decode cX8_init 81 = .ok (.aload_n 0, 1) := by decide +kernel
theorem dX8_init_82 : decode cX8_init 82 = .ok (.new 52, 3) := by decide +kernel
theorem dX8_init_85 : decode cX8_init 85 = .ok (.dup, 1) := by decide +kernel
theorem dX8_init_86 : decode cX8_init 86 = .ok (.invokespecial 54, 3) := by decide +kernel
theorem dX8_init_89 : decode cX8_init 89 = .ok (.putfield 55, 3) := by decide +kernel
theorem dX8_init_92 : decode cX8_init 92 = .ok (.aload_n 0, 1) := by decide +kernel
theorem dX8_init_93 : decode cX8_init 93 = .ok (.bipush (-2), 2) := by decide +kernel
theorem dX8_init_95 : decode cX8_init 95 = .ok (.putfield 59, 3) := by decide +kernel
theorem dX8_init_98 : decode cX8_init 98 = .ok (.aload_n 0, 1) := by decide +kernel
theorem dX8_init_99 : decode cX8_init 99 = .ok (.getfield 12, 3) := by decide +kernel
theorem dX8_init_102 : decode cX8_init 102 = .ok (.invokevirtual 63, 3) := by decide +kernel
theorem dX8_init_105 : decode cX8_init 105 = .ok (.aload_n 0, 1) := by decide +kernel
theorem dX8_init_106 : decode cX8_init 106 = .ok (.getfield 19, 3) := by decide +kernel
theorem dX8_init_109 : decode cX8_init 109 = .ok (.aload_n 0, 1) := by decide +kernel
theorem dX8_init_110 : decode cX8_init 110 = .ok (.getfield 12, 3) := by decide +kernel
theorem dX8_init_113 : decode cX8_init 113 = .ok (.iconst (-1), 1) := by decide +kernel
theorem dX8_init_114 : decode cX8_init 114 = .ok (.invokevirtual 66, 3) := by decide +kernel
theorem dX8_init_117 : decode cX8_init 117 = .ok (.return_, 1) := by decide +kernel
theorem dX8_append_0 : decode cX8_append 0 = .ok (.aload_n 0, 1) := by decide +kernel
theorem dX8_append_1 : decode cX8_append 1 = .ok (.getfield 51, 3) := by decide +kernel
theorem dX8_append_4 : decode cX8_append 4 = .ok (.getfield 70, 3) := by decide +kernel
theorem dX8_append_7 : decode cX8_append 7 = .ok (.bipush 20, 2) := by decide +kernel
theorem dX8_append_9 : decode cX8_append 9 = .ok (.iadd, 1) := by decide +kernel
theorem dX8_append_10 : decode cX8_append 10 = .ok (.sipush 900, 3) := by decide +kernel
theorem dX8_append_13 : decode cX8_append 13 = .ok (.if_icmp .le 5, 3) := by decide +kernel
theorem dX8_append_16 : decode cX8_append 16 = .ok (.iconst (-1), 1) := by decide +kernel
theorem dX8_append_17 : decode cX8_append 17 = .ok (.ireturn, 1) := by decide +kernel
theorem dX8_append_18 : decode cX8_append 18 = .ok (.aload_n 0, 1) := by decide +kernel
theorem dX8_append_19 : decode cX8_append 19 = .ok (.getfield 51, 3) := by decide +kernel
theorem dX8_append_22 : decode cX8_append 22 = .ok (.iload_n 1, 1) := by decide +kernel
theorem dX8_append_23 : decode cX8_append 23 = .ok (.invokevirtual 75, 3) := by decide +kernel
theorem dX8_append_26 : decode cX8_append 26 = .ok (.aload_n 0, 1) := by decide +kernel
theorem dX8_append_27 : decode cX8_append 27 = .ok (.getfield 51, 3) := by decide +kernel
theorem dX8_append_30 : decode cX8_append 30 = .ok (.iload_n 2, 1) := by decide +kernel
theorem dX8_append_31 : decode cX8_append 31 = .ok (.invokevirtual 75, 3) := by decide +kernel
theorem dX8_append_34 : decode cX8_append 34 = .ok (.aload_n 0, 1) := by decide +kernel
theorem dX8_append_35 : decode cX8_append 35 = .ok (.getfield 51, 3) := by decide +kernel
theorem dX8_append_38 : decode cX8_append 38 = .ok (.iload_n 3, 1) := by decide +kernel
theorem dX8_append_39 : decode cX8_append 39 = .ok (.invokevirtual 75, 3) := by decide +kernel
theorem dX8_append_42 : decode cX8_append 42 = .ok (.aload_n 0, 1) := by decide +kernel
theorem dX8_append_43 : decode cX8_append 43 = .ok (.getfield 51, 3) := by decide +kernel
theorem dX8_append_46 : decode cX8_append 46 = .ok (.iload 4, 2) := by decide +kernel
theorem dX8_append_48 : decode cX8_append 48 = .ok (.invokevirtual 75, 3) := by decide +kernel
theorem dX8_append_51 : decode cX8_append 51 = .ok (.aload_n 0, 1) := by decide +kernel
theorem dX8_append_52 : decode cX8_append 52 = .ok (.getfield 51, 3) := by decide +kernel
theorem dX8_append_55 : decode cX8_append 55 = .ok (.iload 5, 2) := by decide +kernel
theorem dX8_append_57 : decode cX8_append 57 = .ok (.invokevirtual 75, 3) := by decide +kernel
theorem dX8_append_60 : decode cX8_append 60 = .ok (.aload_n 0, 1) := by decide +kernel
theorem dX8_append_61 : decode cX8_append 61 = .ok (.getfield 51, 3) := by decide +kernel
theorem dX8_append_64 : decode cX8_append 64 = .ok (.getfield 70, 3) := by decide +kernel
theorem dX8_append_67 : decode cX8_append 67 = .ok (.ireturn, 1) := by decide +kernel
theorem dX8_truncate_0 : decode cX8_truncate 0 = .ok (.iload_n 1, 1) := by decide +kernel
theorem dX8_truncate_1 : decode cX8_truncate 1 = .ok (.ifCond .lt 14, 3) := by decide +kernel
theorem dX8_truncate_4 : decode cX8_truncate 4 = .ok (.iload_n 1, 1) := by decide +kernel
theorem dX8_truncate_5 : decode cX8_truncate 5 = .ok (.aload_n 0, 1) := by decide +kernel
theorem dX8_truncate_6 : decode cX8_truncate 6 = .ok (.getfield 51, 3) := by decide +kernel
theorem dX8_truncate_9 : decode cX8_truncate 9 = .ok (.getfield 70, 3) := by decide +kernel
theorem dX8_truncate_12 : decode cX8_truncate 12 = .ok (.if_icmp .le 5, 3) := by decide +kernel
theorem dX8_truncate_15 : decode cX8_truncate 15 = .ok (.iconst (-1), 1) := by decide +kernel
theorem dX8_truncate_16 : decode cX8_truncate 16 = .ok (.ireturn, 1) := by decide +kernel
theorem dX8_truncate_17 : decode cX8_truncate 17 = .ok (.aload_n 0, 1) := by decide +kernel
theorem dX8_truncate_18 : decode cX8_truncate 18 = .ok (.getfield 51, 3) := by decide +kernel
theorem dX8_truncate_21 : decode cX8_truncate 21 = .ok (.dup, 1) := by decide +kernel
theorem dX8_truncate_22 : decode cX8_truncate 22 = .ok (.getfield 70, 3) := by decide +kernel
theorem dX8_truncate_25 : decode cX8_truncate 25 = .ok (.iload_n 1, 1) := by decide +kernel
theorem dX8_truncate_26 : decode cX8_truncate 26 = .ok (.isub, 1) := by decide +kernel
theorem dX8_truncate_27 : decode cX8_truncate 27 = .ok (.putfield 70, 3) := by decide +kernel
theorem dX8_truncate_30 : decode cX8_truncate 30 = .ok (.aload_n 0, 1) := by decide +kernel
theorem dX8_truncate_31 : decode cX8_truncate 31 = .ok (.getfield 51, 3) := by decide +kernel
theorem dX8_truncate_34 : decode cX8_truncate 34 = .ok (.getfield 70, 3) := by decide +kernel
theorem dX8_truncate_37 : decode cX8_truncate 37 = .ok (.ireturn, 1) := by decide +kernel
theorem dX8_load_0 : decode cX8_load 0 = .ok (.aload_n 0, 1) := by decide +kernel
theorem dX8_load_1 : decode cX8_load 1 = .ok (.getfield 43, 3) := by decide +kernel
theorem dX8_load_4 : decode cX8_load 4 = .ok (.invokevirtual 79, 3) := by decide +kernel
theorem dX8_load_7 : decode cX8_load 7 = .ok (.istore_n 1, 1) := by decide +kernel
theorem dX8_load_8 : decode cX8_load 8 = .ok (.aload_n 0, 1) := by decide +kernel
theorem dX8_load_9 : decode cX8_load 9 = .ok (.iload_n 1, 1) := by decide +kernel
theorem dX8_load_10 : decode cX8_load 10 = .ok (.ifCond .eq 8, 3) := by decide +kernel
theorem dX8_load_13 : decode cX8_load 13 = .ok (.bipush (-2), 2) := by decide +kernel
theorem dX8_load_15 : decode cX8_load 15 = .ok (.goto 10, 3) := by decide +kernel
theorem dX8_load_18 : decode cX8_load 18 = .ok (.aload_n 0, 1) := by decide +kernel
theorem dX8_load_19 : decode cX8_load 19 = .ok (.getfield 43, 3) := by decide +kernel
theorem dX8_load_22 : decode cX8_load 22 = .ok (.invokevirtual 83, 3) := by decide +kernel
theorem dX8_load_25 : decode cX8_load 25 = .ok (.putfield 59, 3) := by decide +kernel
theorem dX8_load_28 : decode cX8_load 28 = .ok (.aload_n 0, 1) := by decide +kernel
theorem dX8_load_29 : decode cX8_load 29 = .ok (.getfield 51, 3) := by decide +kernel
theorem dX8_load_32 : decode cX8_load 32 = .ok (.iconst 0, 1) := by decide +kernel
theorem dX8_load_33 : decode cX8_load 33 = .ok (.putfield 70, 3) := by decide +kernel
theorem dX8_load_36 : decode cX8_load 36 = .ok (.iload_n 1, 1) := by decide +kernel
theorem dX8_load_37 : decode cX8_load 37 = .ok (.ifCond .ne 5, 3) := by decide +kernel
theorem dX8_load_40 : decode cX8_load 40 = .ok (.iconst (-1), 1) := by decide +kernel
theorem dX8_load_41 : decode cX8_load 41 = .ok (.ireturn, 1) := by decide +kernel
theorem dX8_load_42 : decode cX8_load 42 = .ok (.aload_n 0, 1) := by decide +kernel
theorem dX8_load_43 : decode cX8_load 43 = .ok (.getfield 12, 3) := by decide +kernel
theorem dX8_load_46 : decode cX8_load 46 = .ok (.aload_n 0, 1) := by decide +kernel
theorem dX8_load_47 : decode cX8_load 47 = .ok (.getfield 43, 3) := by decide +kernel
theorem dX8_load_50 : decode cX8_load 50 = .ok (.getfield 87, 3) := by decide +kernel
theorem dX8_load_53 : decode cX8_load 53 = .ok (.invokevirtual 90, 3) := by decide +kernel
theorem dX8_load_56 : decode cX8_load 56 = .ok (.aload_n 0, 1) := by decide +kernel
theorem dX8_load_57 : decode cX8_load 57 = .ok (.getfield 36, 3) := by decide +kernel
theorem dX8_load_60 : decode cX8_load 60 = .ok (.invokevirtual 94, 3) := by decide +kernel
theorem dX8_load_63 : decode cX8_load 63 = .ok (.aload_n 0, 1) := by decide +kernel
theorem dX8_load_64 : decode cX8_load 64 = .ok (.getfield 29, 3) := by decide +kernel
theorem dX8_load_67 : decode cX8_load 67 = .ok (.invokevirtual 95, 3) := by decide +kernel
theorem dX8_load_70 : decode cX8_load 70 = .ok (.aload_n 0, 1) := by decide +kernel
theorem dX8_load_71 : decode cX8_load 71 = .ok (.getfield 19, 3) := by decide +kernel
theorem dX8_load_74 : decode cX8_load 74 = .ok (.aload_n 0, 1) := by decide +kernel
theorem dX8_load_75 : decode cX8_load 75 = .ok (.getfield 12, 3) := by decide +kernel
theorem dX8_load_78 : decode cX8_load 78 = .ok (.iconst (-1), 1) := by decide +kernel
theorem dX8_load_79 : decode cX8_load 79 = .ok (.invokevirtual 66, 3) := by decide +kernel
theorem dX8_load_82 : decode cX8_load 82 = .ok (.aload_n 0, 1) := by decide +kernel
theorem dX8_load_83 : decode cX8_load 83 = .ok (.getfield 12, 3) := by decide +kernel
theorem dX8_load_86 : decode cX8_load 86 = .ok (.getfield 96, 3) := by decide +kernel
theorem dX8_load_89 : decode cX8_load 89 = .ok (.ireturn, 1) := by decide +kernel
theorem dX8_errorPosition_0 : decode cX8_errorPosition 0 = .ok (.aload_n 0, 1) := by decide +kernel
theorem dX8_errorPosition_1 : decode cX8_errorPosition 1 = .ok (.getfield 59, 3) := by decide +kernel
theorem dX8_errorPosition_4 : decode cX8_errorPosition 4 = .ok (.ireturn, 1) := by decide +kernel
theorem dX8_open_0 : decode cX8_open 0 = .ok (.aload_n 0, 1) := by decide +kernel
theorem dX8_open_1 : decode cX8_open 1 = .ok (.invokevirtual 99, 3) := by decide +kernel
theorem dX8_open_4 : decode cX8_open 4 = .ok (.ifCond .ne 5, 3) := by decide +kernel
theorem dX8_open_7 : decode cX8_open 7 = .ok (.iconst (-1), 1) := by decide +kernel
theorem dX8_open_8 : decode cX8_open 8 = .ok (.ireturn, 1) := by decide +kernel
theorem dX8_open_9 : decode cX8_open 9 = .ok (.aload_n 0, 1) := by decide +kernel
theorem dX8_open_10 : decode cX8_open 10 = .ok (.getfield 12, 3) := by decide +kernel
theorem dX8_open_13 : decode cX8_open 13 = .ok (.getfield 102, 3) := by decide +kernel
theorem dX8_open_16 : decode cX8_open 16 = .ok (.bipush 10, 2) := by decide +kernel
theorem dX8_open_18 : decode cX8_open 18 = .ok (.if_icmp .ne 6, 3) := by decide +kernel
theorem dX8_open_21 : decode cX8_open 21 = .ok (.bipush (-4), 2) := by decide +kernel
theorem dX8_open_23 : decode cX8_open 23 = .ok (.ireturn, 1) := by decide +kernel
theorem dX8_open_24 : decode cX8_open 24 = .ok (.aload_n 0, 1) := by decide +kernel
theorem dX8_open_25 : decode cX8_open 25 = .ok (.getfield 29, 3) := by decide +kernel
theorem dX8_open_28 : decode cX8_open 28 = .ok (.aload_n 0, 1) := by decide +kernel
theorem dX8_open_29 : decode cX8_open 29 = .ok (.getfield 12, 3) := by decide +kernel
theorem dX8_open_32 : decode cX8_open 32 = .ok (.invokevirtual 105, 3) := by decide +kernel
theorem dX8_open_35 : decode cX8_open 35 = .ok (.aload_n 0, 1) := by decide +kernel
theorem dX8_open_36 : decode cX8_open 36 = .ok (.getfield 12, 3) := by decide +kernel
theorem dX8_open_39 : decode cX8_open 39 = .ok (.aload_n 0, 1) := by decide +kernel
theorem dX8_open_40 : decode cX8_open 40 = .ok (.getfield 51, 3) := by decide +kernel
theorem dX8_open_43 : decode cX8_open 43 = .ok (.iconst 0, 1) := by decide +kernel
theorem dX8_open_44 : decode cX8_open 44 = .ok (.aload_n 0, 1) := by decide +kernel
theorem dX8_open_45 : decode cX8_open 45 = .ok (.getfield 51, 3) := by decide +kernel
theorem dX8_open_48 : decode cX8_open 48 = .ok (.getfield 70, 3) := by decide +kernel
theorem dX8_open_51 : decode cX8_open 51 = .ok (.invokevirtual 108, 3) := by decide +kernel
theorem dX8_open_54 : decode cX8_open 54 = .ok (.istore_n 1, 1) := by decide +kernel
theorem dX8_open_55 : decode cX8_open 55 = .ok (.aload_n 0, 1) := by decide +kernel
theorem dX8_open_56 : decode cX8_open 56 = .ok (.getfield 51, 3) := by decide +kernel
theorem dX8_open_59 : decode cX8_open 59 = .ok (.iconst 0, 1) := by decide +kernel
theorem dX8_open_60 : decode cX8_open 60 = .ok (.putfield 70, 3) := by decide +kernel
theorem dX8_open_63 : decode cX8_open 63 = .ok (.aload_n 0, 1) := by decide +kernel
theorem dX8_open_64 : decode cX8_open 64 = .ok (.iconst 0, 1) := by decide +kernel
theorem dX8_open_65 : decode cX8_open 65 = .ok (.iload_n 1, 1) := by decide +kernel
theorem dX8_open_66 : decode cX8_open 66 = .ok (.aload_n 0, 1) := by decide +kernel
theorem dX8_open_67 : decode cX8_open 67 = .ok (.getfield 12, 3) := by decide +kernel
theorem dX8_open_70 : decode cX8_open 70 = .ok (.getfield 102, 3) := by decide +kernel
theorem dX8_open_73 : decode cX8_open 73 = .ok (.invokevirtual 112, 3) := by decide +kernel
theorem dX8_open_76 : decode cX8_open 76 = .ok (.iload_n 1, 1) := by decide +kernel
theorem dX8_open_77 : decode cX8_open 77 = .ok (.ireturn, 1) := by decide +kernel
theorem dX8_tell_0 : decode cX8_tell 0 = .ok (.aload_n 0, 1) := by decide +kernel
theorem dX8_tell_1 : decode cX8_tell 1 = .ok (.iload_n 1, 1) := by decide +kernel
theorem dX8_tell_2 : decode cX8_tell 2 = .ok (.iload_n 2, 1) := by decide +kernel
theorem dX8_tell_3 : decode cX8_tell 3 = .ok (.iload_n 3, 1) := by decide +kernel
theorem dX8_tell_4 : decode cX8_tell 4 = .ok (.iload 4, 2) := by decide +kernel
theorem dX8_tell_6 : decode cX8_tell 6 = .ok (.invokevirtual 116, 3) := by decide +kernel
theorem dX8_tell_9 : decode cX8_tell 9 = .ok (.ifCond .ne 5, 3) := by decide +kernel
theorem dX8_tell_12 : decode cX8_tell 12 = .ok (.iconst (-1), 1) := by decide +kernel
theorem dX8_tell_13 : decode cX8_tell 13 = .ok (.ireturn, 1) := by decide +kernel
theorem dX8_tell_14 : decode cX8_tell 14 = .ok (.aload_n 0, 1) := by decide +kernel
theorem dX8_tell_15 : decode cX8_tell 15 = .ok (.getfield 12, 3) := by decide +kernel
theorem dX8_tell_18 : decode cX8_tell 18 = .ok (.getfield 96, 3) := by decide +kernel
theorem dX8_tell_21 : decode cX8_tell 21 = .ok (.bipush 24, 2) := by decide +kernel
theorem dX8_tell_23 : decode cX8_tell 23 = .ok (.if_icmp .ne 6, 3) := by decide +kernel
theorem dX8_tell_26 : decode cX8_tell 26 = .ok (.bipush (-4), 2) := by decide +kernel
theorem dX8_tell_28 : decode cX8_tell 28 = .ok (.ireturn, 1) := by decide +kernel
theorem dX8_tell_29 : decode cX8_tell 29 = .ok (.aload_n 0, 1) := by decide +kernel
theorem dX8_tell_30 : decode cX8_tell 30 = .ok (.getfield 29, 3) := by decide +kernel
theorem dX8_tell_33 : decode cX8_tell 33 = .ok (.aload_n 0, 1) := by decide +kernel
theorem dX8_tell_34 : decode cX8_tell 34 = .ok (.getfield 12, 3) := by decide +kernel
theorem dX8_tell_37 : decode cX8_tell 37 = .ok (.invokevirtual 105, 3) := by decide +kernel
theorem dX8_tell_40 : decode cX8_tell 40 = .ok (.aload_n 0, 1) := by decide +kernel
theorem dX8_tell_41 : decode cX8_tell 41 = .ok (.getfield 19, 3) := by decide +kernel
theorem dX8_tell_44 : decode cX8_tell 44 = .ok (.iload_n 1, 1) := by decide +kernel
theorem dX8_tell_45 : decode cX8_tell 45 = .ok (.iload_n 2, 1) := by decide +kernel
theorem dX8_tell_46 : decode cX8_tell 46 = .ok (.iload_n 3, 1) := by decide +kernel
theorem dX8_tell_47 : decode cX8_tell 47 = .ok (.iload 4, 2) := by decide +kernel
theorem dX8_tell_49 : decode cX8_tell 49 = .ok (.invokevirtual 120, 3) := by decide +kernel
theorem dX8_tell_52 : decode cX8_tell 52 = .ok (.ifCond .ge 21, 3) := by decide +kernel
theorem dX8_tell_55 : decode cX8_tell 55 = .ok (.aload_n 0, 1) := by decide +kernel
theorem dX8_tell_56 : decode cX8_tell 56 = .ok (.getfield 12, 3) := by decide +kernel
theorem dX8_tell_59 : decode cX8_tell 59 = .ok (.getfield 124, 3) := by decide +kernel
theorem dX8_tell_62 : decode cX8_tell 62 = .ok (.bipush 8, 2) := by decide +kernel
theorem dX8_tell_64 : decode cX8_tell 64 = .ok (.iload_n 3, 1) := by decide +kernel
theorem dX8_tell_65 : decode cX8_tell 65 = .ok (.iload 4, 2) := by decide +kernel
theorem dX8_tell_67 : decode cX8_tell 67 = .ok (.invokevirtual 128, 3) := by decide +kernel
theorem dX8_tell_70 : decode cX8_tell 70 = .ok (.bipush (-5), 2) := by decide +kernel
theorem dX8_tell_72 : decode cX8_tell 72 = .ok (.ireturn, 1) := by decide +kernel
theorem dX8_tell_73 : decode cX8_tell 73 = .ok (.aload_n 0, 1) := by decide +kernel
theorem dX8_tell_74 : decode cX8_tell 74 = .ok (.getfield 12, 3) := by decide +kernel
theorem dX8_tell_77 : decode cX8_tell 77 = .ok (.iload_n 1, 1) := by decide +kernel
theorem dX8_tell_78 : decode cX8_tell 78 = .ok (.iload_n 2, 1) := by decide +kernel
theorem dX8_tell_79 : decode cX8_tell 79 = .ok (.iload_n 3, 1) := by decide +kernel
theorem dX8_tell_80 : decode cX8_tell 80 = .ok (.iload 4, 2) := by decide +kernel
theorem dX8_tell_82 : decode cX8_tell 82 = .ok (.iconst 1, 1) := by decide +kernel
theorem dX8_tell_83 : decode cX8_tell 83 = .ok (.invokevirtual 133, 3) := by decide +kernel
theorem dX8_tell_86 : decode cX8_tell 86 = .ok (.istore 5, 2) := by decide +kernel
theorem dX8_tell_88 : decode cX8_tell 88 = .ok (.aload_n 0, 1) := by decide +kernel
theorem dX8_tell_89 : decode cX8_tell 89 = .ok (.iconst 1, 1) := by decide +kernel
theorem dX8_tell_90 : decode cX8_tell 90 = .ok (.iload 5, 2) := by decide +kernel
theorem dX8_tell_92 : decode cX8_tell 92 = .ok (.iload 4, 2) := by decide +kernel
theorem dX8_tell_94 : decode cX8_tell 94 = .ok (.invokevirtual 112, 3) := by decide +kernel
theorem dX8_tell_97 : decode cX8_tell 97 = .ok (.iload 5, 2) := by decide +kernel
theorem dX8_tell_99 : decode cX8_tell 99 = .ok (.ireturn, 1) := by decide +kernel
theorem dX8_drop_0 : decode cX8_drop 0 = .ok (.aload_n 0, 1) := by decide +kernel
theorem dX8_drop_1 : decode cX8_drop 1 = .ok (.iload_n 1, 1) := by decide +kernel
theorem dX8_drop_2 : decode cX8_drop 2 = .ok (.invokevirtual 137, 3) := by decide +kernel
theorem dX8_drop_5 : decode cX8_drop 5 = .ok (.ifCond .ne 5, 3) := by decide +kernel
theorem dX8_drop_8 : decode cX8_drop 8 = .ok (.iconst (-1), 1) := by decide +kernel
theorem dX8_drop_9 : decode cX8_drop 9 = .ok (.ireturn, 1) := by decide +kernel
theorem dX8_drop_10 : decode cX8_drop 10 = .ok (.aload_n 0, 1) := by decide +kernel
theorem dX8_drop_11 : decode cX8_drop 11 = .ok (.getfield 12, 3) := by decide +kernel
theorem dX8_drop_14 : decode cX8_drop 14 = .ok (.getfield 141, 3) := by decide +kernel
theorem dX8_drop_17 : decode cX8_drop 17 = .ok (.iload_n 1, 1) := by decide +kernel
theorem dX8_drop_18 : decode cX8_drop 18 = .ok (.iaload, 1) := by decide +kernel
theorem dX8_drop_19 : decode cX8_drop 19 = .ok (.istore_n 2, 1) := by decide +kernel
theorem dX8_drop_20 : decode cX8_drop 20 = .ok (.aload_n 0, 1) := by decide +kernel
theorem dX8_drop_21 : decode cX8_drop 21 = .ok (.getfield 29, 3) := by decide +kernel
theorem dX8_drop_24 : decode cX8_drop 24 = .ok (.aload_n 0, 1) := by decide +kernel
theorem dX8_drop_25 : decode cX8_drop 25 = .ok (.getfield 12, 3) := by decide +kernel
theorem dX8_drop_28 : decode cX8_drop 28 = .ok (.invokevirtual 105, 3) := by decide +kernel
theorem dX8_drop_31 : decode cX8_drop 31 = .ok (.aload_n 0, 1) := by decide +kernel
theorem dX8_drop_32 : decode cX8_drop 32 = .ok (.getfield 12, 3) := by decide +kernel
theorem dX8_drop_35 : decode cX8_drop 35 = .ok (.iload_n 1, 1) := by decide +kernel
theorem dX8_drop_36 : decode cX8_drop 36 = .ok (.invokevirtual 145, 3) := by decide +kernel
theorem dX8_drop_39 : decode cX8_drop 39 = .ok (.aload_n 0, 1) := by decide +kernel
theorem dX8_drop_40 : decode cX8_drop 40 = .ok (.iconst 2, 1) := by decide +kernel
theorem dX8_drop_41 : decode cX8_drop 41 = .ok (.iload_n 1, 1) := by decide +kernel
theorem dX8_drop_42 : decode cX8_drop 42 = .ok (.iload_n 2, 1) := by decide +kernel
theorem dX8_drop_43 : decode cX8_drop 43 = .ok (.invokevirtual 112, 3) := by decide +kernel
theorem dX8_drop_46 : decode cX8_drop 46 = .ok (.aload_n 0, 1) := by decide +kernel
theorem dX8_drop_47 : decode cX8_drop 47 = .ok (.getfield 12, 3) := by decide +kernel
theorem dX8_drop_50 : decode cX8_drop 50 = .ok (.getfield 96, 3) := by decide +kernel
theorem dX8_drop_53 : decode cX8_drop 53 = .ok (.ireturn, 1) := by decide +kernel
theorem dX8_set_0 : decode cX8_set 0 = .ok (.aload_n 0, 1) := by decide +kernel
theorem dX8_set_1 : decode cX8_set 1 = .ok (.iload_n 1, 1) := by decide +kernel
theorem dX8_set_2 : decode cX8_set 2 = .ok (.invokevirtual 137, 3) := by decide +kernel
theorem dX8_set_5 : decode cX8_set 5 = .ok (.ifCond .eq 10, 3) := by decide +kernel
theorem dX8_set_8 : decode cX8_set 8 = .ok (.iload_n 2, 1) := by decide +kernel
theorem dX8_set_9 : decode cX8_set 9 = .ok (.invokestatic 148, 3) := by decide +kernel
theorem dX8_set_12 : decode cX8_set 12 = .ok (.ifCond .ne 5, 3) := by decide +kernel
theorem dX8_set_15 : decode cX8_set 15 = .ok (.iconst (-1), 1) := by decide +kernel
theorem dX8_set_16 : decode cX8_set 16 = .ok (.ireturn, 1) := by decide +kernel
theorem dX8_set_17 : decode cX8_set 17 = .ok (.aload_n 0, 1) := by decide +kernel
theorem dX8_set_18 : decode cX8_set 18 = .ok (.getfield 12, 3) := by decide +kernel
theorem dX8_set_21 : decode cX8_set 21 = .ok (.getfield 141, 3) := by decide +kernel
theorem dX8_set_24 : decode cX8_set 24 = .ok (.iload_n 1, 1) := by decide +kernel
theorem dX8_set_25 : decode cX8_set 25 = .ok (.iaload, 1) := by decide +kernel
theorem dX8_set_26 : decode cX8_set 26 = .ok (.istore_n 3, 1) := by decide +kernel
theorem dX8_set_27 : decode cX8_set 27 = .ok (.iload_n 3, 1) := by decide +kernel
theorem dX8_set_28 : decode cX8_set 28 = .ok (.iload_n 2, 1) := by decide +kernel
theorem dX8_set_29 : decode cX8_set 29 = .ok (.if_icmp .ne 6, 3) := by decide +kernel
theorem dX8_set_32 : decode cX8_set 32 = .ok (.bipush (-2), 2) := by decide +kernel
theorem dX8_set_34 : decode cX8_set 34 = .ok (.ireturn, 1) := by decide +kernel
theorem dX8_set_35 : decode cX8_set 35 = .ok (.aload_n 0, 1) := by decide +kernel
theorem dX8_set_36 : decode cX8_set 36 = .ok (.getfield 12, 3) := by decide +kernel
theorem dX8_set_39 : decode cX8_set 39 = .ok (.getfield 151, 3) := by decide +kernel
theorem dX8_set_42 : decode cX8_set 42 = .ok (.iload_n 1, 1) := by decide +kernel
theorem dX8_set_43 : decode cX8_set 43 = .ok (.baload, 1) := by decide +kernel
theorem dX8_set_44 : decode cX8_set 44 = .ok (.ifCond .eq 15, 3) := by decide +kernel
theorem dX8_set_47 : decode cX8_set 47 = .ok (.aload_n 0, 1) := by decide +kernel
theorem dX8_set_48 : decode cX8_set 48 = .ok (.iload_n 1, 1) := by decide +kernel
theorem dX8_set_49 : decode cX8_set 49 = .ok (.iload_n 2, 1) := by decide +kernel
theorem dX8_set_50 : decode cX8_set 50 = .ok (.invokevirtual 155, 3) := by decide +kernel
theorem dX8_set_53 : decode cX8_set 53 = .ok (.ifCond .ge 6, 3) := by decide +kernel
theorem dX8_set_56 : decode cX8_set 56 = .ok (.bipush (-5), 2) := by decide +kernel
theorem dX8_set_58 : decode cX8_set 58 = .ok (.ireturn, 1) := by decide +kernel
theorem dX8_set_59 : decode cX8_set 59 = .ok (.aload_n 0, 1) := by decide +kernel
theorem dX8_set_60 : decode cX8_set 60 = .ok (.getfield 29, 3) := by decide +kernel
theorem dX8_set_63 : decode cX8_set 63 = .ok (.aload_n 0, 1) := by decide +kernel
theorem dX8_set_64 : decode cX8_set 64 = .ok (.getfield 12, 3) := by decide +kernel
theorem dX8_set_67 : decode cX8_set 67 = .ok (.invokevirtual 105, 3) := by decide +kernel
theorem dX8_set_70 : decode cX8_set 70 = .ok (.aload_n 0, 1) := by decide +kernel
theorem dX8_set_71 : decode cX8_set 71 = .ok (.getfield 12, 3) := by decide +kernel
theorem dX8_set_74 : decode cX8_set 74 = .ok (.getfield 141, 3) := by decide +kernel
theorem dX8_set_77 : decode cX8_set 77 = .ok (.iload_n 1, 1) := by decide +kernel
theorem dX8_set_78 : decode cX8_set 78 = .ok (.iload_n 2, 1) := by decide +kernel
theorem dX8_set_79 : decode cX8_set 79 = .ok (.iastore, 1) := by decide +kernel
theorem dX8_set_80 : decode cX8_set 80 = .ok (.aload_n 0, 1) := by decide +kernel
theorem dX8_set_81 : decode cX8_set 81 = .ok (.iconst 3, 1) := by decide +kernel
theorem dX8_set_82 : decode cX8_set 82 = .ok (.iload_n 1, 1) := by decide +kernel
theorem dX8_set_83 : decode cX8_set 83 = .ok (.iload_n 3, 1) := by decide +kernel
theorem dX8_set_84 : decode cX8_set 84 = .ok (.invokevirtual 112, 3) := by decide +kernel
theorem dX8_set_87 : decode cX8_set 87 = .ok (.iload_n 3, 1) := by decide +kernel
theorem dX8_set_88 : decode cX8_set 88 = .ok (.ireturn, 1) := by decide +kernel
theorem dX8_turn_0 : decode cX8_turn 0 = .ok (.aload_n 0, 1) := by decide +kernel
theorem dX8_turn_1 : decode cX8_turn 1 = .ok (.iload_n 1, 1) := by decide +kernel
theorem dX8_turn_2 : decode cX8_turn 2 = .ok (.invokevirtual 137, 3) := by decide +kernel
theorem dX8_turn_5 : decode cX8_turn 5 = .ok (.ifCond .ne 5, 3) := by decide +kernel
theorem dX8_turn_8 : decode cX8_turn 8 = .ok (.iconst (-1), 1) := by decide +kernel
theorem dX8_turn_9 : decode cX8_turn 9 = .ok (.ireturn, 1) := by decide +kernel
theorem dX8_turn_10 : decode cX8_turn 10 = .ok (.aload_n 0, 1) := by decide +kernel
theorem dX8_turn_11 : decode cX8_turn 11 = .ok (.getfield 12, 3) := by decide +kernel
theorem dX8_turn_14 : decode cX8_turn 14 = .ok (.getfield 151, 3) := by decide +kernel
theorem dX8_turn_17 : decode cX8_turn 17 = .ok (.iload_n 1, 1) := by decide +kernel
theorem dX8_turn_18 : decode cX8_turn 18 = .ok (.baload, 1) := by decide +kernel
theorem dX8_turn_19 : decode cX8_turn 19 = .ok (.ifCond .ne 7, 3) := by decide +kernel
theorem dX8_turn_22 : decode cX8_turn 22 = .ok (.iconst 1, 1) := by decide +kernel
theorem dX8_turn_23 : decode cX8_turn 23 = .ok (.goto 4, 3) := by decide +kernel
theorem dX8_turn_26 : decode cX8_turn 26 = .ok (.iconst 0, 1) := by decide +kernel
theorem dX8_turn_27 : decode cX8_turn 27 = .ok (.istore_n 2, 1) := by decide +kernel
theorem dX8_turn_28 : decode cX8_turn 28 = .ok (.iload_n 2, 1) := by decide +kernel
theorem dX8_turn_29 : decode cX8_turn 29 = .ok (.ifCond .eq 23, 3) := by decide +kernel
theorem dX8_turn_32 : decode cX8_turn 32 = .ok (.aload_n 0, 1) := by decide +kernel
theorem dX8_turn_33 : decode cX8_turn 33 = .ok (.iload_n 1, 1) := by decide +kernel
theorem dX8_turn_34 : decode cX8_turn 34 = .ok (.aload_n 0, 1) := by decide +kernel
theorem dX8_turn_35 : decode cX8_turn 35 = .ok (.getfield 12, 3) := by decide +kernel
theorem dX8_turn_38 : decode cX8_turn 38 = .ok (.getfield 141, 3) := by decide +kernel
theorem dX8_turn_41 : decode cX8_turn 41 = .ok (.iload_n 1, 1) := by decide +kernel
theorem dX8_turn_42 : decode cX8_turn 42 = .ok (.iaload, 1) := by decide +kernel
theorem dX8_turn_43 : decode cX8_turn 43 = .ok (.invokevirtual 155, 3) := by decide +kernel
theorem dX8_turn_46 : decode cX8_turn 46 = .ok (.ifCond .ge 6, 3) := by decide +kernel
theorem dX8_turn_49 : decode cX8_turn 49 = .ok (.bipush (-5), 2) := by decide +kernel
theorem dX8_turn_51 : decode cX8_turn 51 = .ok (.ireturn, 1) := by decide +kernel
theorem dX8_turn_52 : decode cX8_turn 52 = .ok (.aload_n 0, 1) := by decide +kernel
theorem dX8_turn_53 : decode cX8_turn 53 = .ok (.getfield 29, 3) := by decide +kernel
theorem dX8_turn_56 : decode cX8_turn 56 = .ok (.aload_n 0, 1) := by decide +kernel
theorem dX8_turn_57 : decode cX8_turn 57 = .ok (.getfield 12, 3) := by decide +kernel
theorem dX8_turn_60 : decode cX8_turn 60 = .ok (.invokevirtual 105, 3) := by decide +kernel
theorem dX8_turn_63 : decode cX8_turn 63 = .ok (.aload_n 0, 1) := by decide +kernel
theorem dX8_turn_64 : decode cX8_turn 64 = .ok (.getfield 12, 3) := by decide +kernel
theorem dX8_turn_67 : decode cX8_turn 67 = .ok (.getfield 151, 3) := by decide +kernel
theorem dX8_turn_70 : decode cX8_turn 70 = .ok (.iload_n 1, 1) := by decide +kernel
theorem dX8_turn_71 : decode cX8_turn 71 = .ok (.iload_n 2, 1) := by decide +kernel
theorem dX8_turn_72 : decode cX8_turn 72 = .ok (.bastore, 1) := by decide +kernel
theorem dX8_turn_73 : decode cX8_turn 73 = .ok (.aload_n 0, 1) := by decide +kernel
theorem dX8_turn_74 : decode cX8_turn 74 = .ok (.iconst 4, 1) := by decide +kernel
theorem dX8_turn_75 : decode cX8_turn 75 = .ok (.iload_n 1, 1) := by decide +kernel
theorem dX8_turn_76 : decode cX8_turn 76 = .ok (.iload_n 2, 1) := by decide +kernel
theorem dX8_turn_77 : decode cX8_turn 77 = .ok (.invokestatic 159, 3) := by decide +kernel
theorem dX8_turn_80 : decode cX8_turn 80 = .ok (.invokevirtual 112, 3) := by decide +kernel
theorem dX8_turn_83 : decode cX8_turn 83 = .ok (.iload_n 2, 1) := by decide +kernel
theorem dX8_turn_84 : decode cX8_turn 84 = .ok (.invokestatic 159, 3) := by decide +kernel
theorem dX8_turn_87 : decode cX8_turn 87 = .ok (.ireturn, 1) := by decide +kernel
theorem dX8_pin_0 : decode cX8_pin 0 = .ok (.aload_n 0, 1) := by decide +kernel
theorem dX8_pin_1 : decode cX8_pin 1 = .ok (.iload_n 1, 1) := by decide +kernel
theorem dX8_pin_2 : decode cX8_pin 2 = .ok (.invokevirtual 163, 3) := by decide +kernel
theorem dX8_pin_5 : decode cX8_pin 5 = .ok (.ifCond .eq 11, 3) := by decide +kernel
theorem dX8_pin_8 : decode cX8_pin 8 = .ok (.aload_n 0, 1) := by decide +kernel
theorem dX8_pin_9 : decode cX8_pin 9 = .ok (.iload_n 2, 1) := by decide +kernel
theorem dX8_pin_10 : decode cX8_pin 10 = .ok (.invokevirtual 166, 3) := by decide +kernel
theorem dX8_pin_13 : decode cX8_pin 13 = .ok (.ifCond .ne 5, 3) := by decide +kernel
theorem dX8_pin_16 : decode cX8_pin 16 = .ok (.iconst (-1), 1) := by decide +kernel
theorem dX8_pin_17 : decode cX8_pin 17 = .ok (.ireturn, 1) := by decide +kernel
theorem dX8_pin_18 : decode cX8_pin 18 = .ok (.aload_n 0, 1) := by decide +kernel
theorem dX8_pin_19 : decode cX8_pin 19 = .ok (.iload_n 1, 1) := by decide +kernel
theorem dX8_pin_20 : decode cX8_pin 20 = .ok (.invokevirtual 169, 3) := by decide +kernel
theorem dX8_pin_23 : decode cX8_pin 23 = .ok (.ifCond .ne 6, 3) := by decide +kernel
theorem dX8_pin_26 : decode cX8_pin 26 = .ok (.bipush (-3), 2) := by decide +kernel
theorem dX8_pin_28 : decode cX8_pin 28 = .ok (.ireturn, 1) := by decide +kernel
theorem dX8_pin_29 : decode cX8_pin 29 = .ok (.aload_n 0, 1) := by decide +kernel
theorem dX8_pin_30 : decode cX8_pin 30 = .ok (.getfield 19, 3) := by decide +kernel
theorem dX8_pin_33 : decode cX8_pin 33 = .ok (.iload_n 1, 1) := by decide +kernel
theorem dX8_pin_34 : decode cX8_pin 34 = .ok (.iload_n 2, 1) := by decide +kernel
theorem dX8_pin_35 : decode cX8_pin 35 = .ok (.invokevirtual 172, 3) := by decide +kernel
theorem dX8_pin_38 : decode cX8_pin 38 = .ok (.ifCond .ne 6, 3) := by decide +kernel
theorem dX8_pin_41 : decode cX8_pin 41 = .ok (.bipush (-5), 2) := by decide +kernel
theorem dX8_pin_43 : decode cX8_pin 43 = .ok (.ireturn, 1) := by decide +kernel
theorem dX8_pin_44 : decode cX8_pin 44 = .ok (.aload_n 0, 1) := by decide +kernel
theorem dX8_pin_45 : decode cX8_pin 45 = .ok (.getfield 29, 3) := by decide +kernel
theorem dX8_pin_48 : decode cX8_pin 48 = .ok (.aload_n 0, 1) := by decide +kernel
theorem dX8_pin_49 : decode cX8_pin 49 = .ok (.getfield 12, 3) := by decide +kernel
theorem dX8_pin_52 : decode cX8_pin 52 = .ok (.invokevirtual 105, 3) := by decide +kernel
theorem dX8_pin_55 : decode cX8_pin 55 = .ok (.aload_n 0, 1) := by decide +kernel
theorem dX8_pin_56 : decode cX8_pin 56 = .ok (.getfield 12, 3) := by decide +kernel
theorem dX8_pin_59 : decode cX8_pin 59 = .ok (.getfield 176, 3) := by decide +kernel
theorem dX8_pin_62 : decode cX8_pin 62 = .ok (.iload_n 1, 1) := by decide +kernel
theorem dX8_pin_63 : decode cX8_pin 63 = .ok (.iload_n 2, 1) := by decide +kernel
theorem dX8_pin_64 : decode cX8_pin 64 = .ok (.iastore, 1) := by decide +kernel
theorem dX8_pin_65 : decode cX8_pin 65 = .ok (.aload_n 0, 1) := by decide +kernel
theorem dX8_pin_66 : decode cX8_pin 66 = .ok (.iconst 5, 1) := by decide +kernel
theorem dX8_pin_67 : decode cX8_pin 67 = .ok (.iload_n 1, 1) := by decide +kernel
theorem dX8_pin_68 : decode cX8_pin 68 = .ok (.iload_n 2, 1) := by decide +kernel
theorem dX8_pin_69 : decode cX8_pin 69 = .ok (.invokevirtual 112, 3) := by decide +kernel
theorem dX8_pin_72 : decode cX8_pin 72 = .ok (.aload_n 0, 1) := by decide +kernel
theorem dX8_pin_73 : decode cX8_pin 73 = .ok (.getfield 12, 3) := by decide +kernel
theorem dX8_pin_76 : decode cX8_pin 76 = .ok (.invokevirtual 179, 3) := by decide +kernel
theorem dX8_pin_79 : decode cX8_pin 79 = .ok (.ireturn, 1) := by decide +kernel
theorem dX8_unpin_0 : decode cX8_unpin 0 = .ok (.aload_n 0, 1) := by decide +kernel
theorem dX8_unpin_1 : decode cX8_unpin 1 = .ok (.iload_n 1, 1) := by decide +kernel
theorem dX8_unpin_2 : decode cX8_unpin 2 = .ok (.invokevirtual 163, 3) := by decide +kernel
theorem dX8_unpin_5 : decode cX8_unpin 5 = .ok (.ifCond .ne 5, 3) := by decide +kernel
theorem dX8_unpin_8 : decode cX8_unpin 8 = .ok (.iconst (-1), 1) := by decide +kernel
theorem dX8_unpin_9 : decode cX8_unpin 9 = .ok (.ireturn, 1) := by decide +kernel
theorem dX8_unpin_10 : decode cX8_unpin 10 = .ok (.aload_n 0, 1) := by decide +kernel
theorem dX8_unpin_11 : decode cX8_unpin 11 = .ok (.getfield 12, 3) := by decide +kernel
theorem dX8_unpin_14 : decode cX8_unpin 14 = .ok (.iload_n 1, 1) := by decide +kernel
theorem dX8_unpin_15 : decode cX8_unpin 15 = .ok (.invokevirtual 182, 3) := by decide +kernel
theorem dX8_unpin_18 : decode cX8_unpin 18 = .ok (.ifCond .ne 6, 3) := by decide +kernel
theorem dX8_unpin_21 : decode cX8_unpin 21 = .ok (.bipush (-3), 2) := by decide +kernel
theorem dX8_unpin_23 : decode cX8_unpin 23 = .ok (.ireturn, 1) := by decide +kernel
theorem dX8_unpin_24 : decode cX8_unpin 24 = .ok (.aload_n 0, 1) := by decide +kernel
theorem dX8_unpin_25 : decode cX8_unpin 25 = .ok (.getfield 12, 3) := by decide +kernel
theorem dX8_unpin_28 : decode cX8_unpin 28 = .ok (.getfield 176, 3) := by decide +kernel
theorem dX8_unpin_31 : decode cX8_unpin 31 = .ok (.iload_n 1, 1) := by decide +kernel
theorem dX8_unpin_32 : decode cX8_unpin 32 = .ok (.iaload, 1) := by decide +kernel
theorem dX8_unpin_33 : decode cX8_unpin 33 = .ok (.istore_n 2, 1) := by decide +kernel
theorem dX8_unpin_34 : decode cX8_unpin 34 = .ok (.aload_n 0, 1) := by decide +kernel
theorem dX8_unpin_35 : decode cX8_unpin 35 = .ok (.getfield 29, 3) := by decide +kernel
theorem dX8_unpin_38 : decode cX8_unpin 38 = .ok (.aload_n 0, 1) := by decide +kernel
theorem dX8_unpin_39 : decode cX8_unpin 39 = .ok (.getfield 12, 3) := by decide +kernel
theorem dX8_unpin_42 : decode cX8_unpin 42 = .ok (.invokevirtual 105, 3) := by decide +kernel
theorem dX8_unpin_45 : decode cX8_unpin 45 = .ok (.aload_n 0, 1) := by decide +kernel
theorem dX8_unpin_46 : decode cX8_unpin 46 = .ok (.getfield 12, 3) := by decide +kernel
theorem dX8_unpin_49 : decode cX8_unpin 49 = .ok (.getfield 176, 3) := by decide +kernel
theorem dX8_unpin_52 : decode cX8_unpin 52 = .ok (.iload_n 1, 1) := by decide +kernel
theorem dX8_unpin_53 : decode cX8_unpin 53 = .ok (.iconst (-1), 1) := by decide +kernel
theorem dX8_unpin_54 : decode cX8_unpin 54 = .ok (.iastore, 1) := by decide +kernel
theorem dX8_unpin_55 : decode cX8_unpin 55 = .ok (.aload_n 0, 1) := by decide +kernel
theorem dX8_unpin_56 : decode cX8_unpin 56 = .ok (.bipush 6, 2) := by decide +kernel
theorem dX8_unpin_58 : decode cX8_unpin 58 = .ok (.iload_n 1, 1) := by decide +kernel
theorem dX8_unpin_59 : decode cX8_unpin 59 = .ok (.iload_n 2, 1) := by decide +kernel
theorem dX8_unpin_60 : decode cX8_unpin 60 = .ok (.invokevirtual 112, 3) := by decide +kernel
theorem dX8_unpin_63 : decode cX8_unpin 63 = .ok (.iload_n 2, 1) := by decide +kernel
theorem dX8_unpin_64 : decode cX8_unpin 64 = .ok (.ireturn, 1) := by decide +kernel
theorem dX8_end_0 : decode cX8_end 0 = .ok (.iload_n 1, 1) := by decide +kernel
theorem dX8_end_1 : decode cX8_end 1 = .ok (.iconst 1, 1) := by decide +kernel
theorem dX8_end_2 : decode cX8_end 2 = .ok (.if_icmp .lt 10, 3) := by decide +kernel
theorem dX8_end_5 : decode cX8_end 5 = .ok (.iload_n 1, 1) := by decide +kernel
theorem dX8_end_6 : decode cX8_end 6 = .ok (.sipush 999, 3) := by decide +kernel
theorem dX8_end_9 : decode cX8_end 9 = .ok (.if_icmp .le 5, 3) := by decide +kernel
theorem dX8_end_12 : decode cX8_end 12 = .ok (.iconst (-1), 1) := by decide +kernel
theorem dX8_end_13 : decode cX8_end 13 = .ok (.ireturn, 1) := by decide +kernel
theorem dX8_end_14 : decode cX8_end 14 = .ok (.aload_n 0, 1) := by decide +kernel
theorem dX8_end_15 : decode cX8_end 15 = .ok (.getfield 12, 3) := by decide +kernel
theorem dX8_end_18 : decode cX8_end 18 = .ok (.getfield 185, 3) := by decide +kernel
theorem dX8_end_21 : decode cX8_end 21 = .ok (.istore_n 2, 1) := by decide +kernel
theorem dX8_end_22 : decode cX8_end 22 = .ok (.iload_n 1, 1) := by decide +kernel
theorem dX8_end_23 : decode cX8_end 23 = .ok (.iload_n 2, 1) := by decide +kernel
theorem dX8_end_24 : decode cX8_end 24 = .ok (.if_icmp .ne 6, 3) := by decide +kernel
theorem dX8_end_27 : decode cX8_end 27 = .ok (.bipush (-2), 2) := by decide +kernel
theorem dX8_end_29 : decode cX8_end 29 = .ok (.ireturn, 1) := by decide +kernel
theorem dX8_end_30 : decode cX8_end 30 = .ok (.iload_n 1, 1) := by decide +kernel
theorem dX8_end_31 : decode cX8_end 31 = .ok (.aload_n 0, 1) := by decide +kernel
theorem dX8_end_32 : decode cX8_end 32 = .ok (.getfield 19, 3) := by decide +kernel
theorem dX8_end_35 : decode cX8_end 35 = .ok (.invokevirtual 188, 3) := by decide +kernel
theorem dX8_end_38 : decode cX8_end 38 = .ok (.if_icmp .ge 6, 3) := by decide +kernel
theorem dX8_end_41 : decode cX8_end 41 = .ok (.bipush (-5), 2) := by decide +kernel
theorem dX8_end_43 : decode cX8_end 43 = .ok (.ireturn, 1) := by decide +kernel
theorem dX8_end_44 : decode cX8_end 44 = .ok (.aload_n 0, 1) := by decide +kernel
theorem dX8_end_45 : decode cX8_end 45 = .ok (.getfield 29, 3) := by decide +kernel
theorem dX8_end_48 : decode cX8_end 48 = .ok (.aload_n 0, 1) := by decide +kernel
theorem dX8_end_49 : decode cX8_end 49 = .ok (.getfield 12, 3) := by decide +kernel
theorem dX8_end_52 : decode cX8_end 52 = .ok (.invokevirtual 105, 3) := by decide +kernel
theorem dX8_end_55 : decode cX8_end 55 = .ok (.aload_n 0, 1) := by decide +kernel
theorem dX8_end_56 : decode cX8_end 56 = .ok (.getfield 12, 3) := by decide +kernel
theorem dX8_end_59 : decode cX8_end 59 = .ok (.iload_n 1, 1) := by decide +kernel
theorem dX8_end_60 : decode cX8_end 60 = .ok (.putfield 185, 3) := by decide +kernel
theorem dX8_end_63 : decode cX8_end 63 = .ok (.aload_n 0, 1) := by decide +kernel
theorem dX8_end_64 : decode cX8_end 64 = .ok (.bipush 7, 2) := by decide +kernel
theorem dX8_end_66 : decode cX8_end 66 = .ok (.iload_n 1, 1) := by decide +kernel
theorem dX8_end_67 : decode cX8_end 67 = .ok (.iload_n 2, 1) := by decide +kernel
theorem dX8_end_68 : decode cX8_end 68 = .ok (.invokevirtual 112, 3) := by decide +kernel
theorem dX8_end_71 : decode cX8_end 71 = .ok (.iload_n 2, 1) := by decide +kernel
theorem dX8_end_72 : decode cX8_end 72 = .ok (.ireturn, 1) := by decide +kernel
theorem dX8_rename_0 : decode cX8_rename 0 = .ok (.aload_n 0, 1) := by decide +kernel
theorem dX8_rename_1 : decode cX8_rename 1 = .ok (.iload_n 1, 1) := by decide +kernel
theorem dX8_rename_2 : decode cX8_rename 2 = .ok (.invokevirtual 163, 3) := by decide +kernel
theorem dX8_rename_5 : decode cX8_rename 5 = .ok (.ifCond .eq 10, 3) := by decide +kernel
theorem dX8_rename_8 : decode cX8_rename 8 = .ok (.aload_n 0, 1) := by decide +kernel
theorem dX8_rename_9 : decode cX8_rename 9 = .ok (.invokevirtual 99, 3) := by decide +kernel
theorem dX8_rename_12 : decode cX8_rename 12 = .ok (.ifCond .ne 5, 3) := by decide +kernel
theorem dX8_rename_15 : decode cX8_rename 15 = .ok (.iconst (-1), 1) := by decide +kernel
theorem dX8_rename_16 : decode cX8_rename 16 = .ok (.ireturn, 1) := by decide +kernel
theorem dX8_rename_17 : decode cX8_rename 17 = .ok (.iload_n 1, 1) := by decide +kernel
theorem dX8_rename_18 : decode cX8_rename 18 = .ok (.ifCond .ne 6, 3) := by decide +kernel
theorem dX8_rename_21 : decode cX8_rename 21 = .ok (.bipush (-3), 2) := by decide +kernel
theorem dX8_rename_23 : decode cX8_rename 23 = .ok (.ireturn, 1) := by decide +kernel
theorem dX8_rename_24 : decode cX8_rename 24 = .ok (.aload_n 0, 1) := by decide +kernel
theorem dX8_rename_25 : decode cX8_rename 25 = .ok (.getfield 51, 3) := by decide +kernel
theorem dX8_rename_28 : decode cX8_rename 28 = .ok (.getfield 70, 3) := by decide +kernel
theorem dX8_rename_31 : decode cX8_rename 31 = .ok (.istore_n 2, 1) := by decide +kernel
theorem dX8_rename_32 : decode cX8_rename 32 = .ok (.aload_n 0, 1) := by decide +kernel
theorem dX8_rename_33 : decode cX8_rename 33 = .ok (.getfield 29, 3) := by decide +kernel
theorem dX8_rename_36 : decode cX8_rename 36 = .ok (.aload_n 0, 1) := by decide +kernel
theorem dX8_rename_37 : decode cX8_rename 37 = .ok (.getfield 12, 3) := by decide +kernel
theorem dX8_rename_40 : decode cX8_rename 40 = .ok (.invokevirtual 105, 3) := by decide +kernel
theorem dX8_rename_43 : decode cX8_rename 43 = .ok (.aload_n 0, 1) := by decide +kernel
theorem dX8_rename_44 : decode cX8_rename 44 = .ok (.getfield 12, 3) := by decide +kernel
theorem dX8_rename_47 : decode cX8_rename 47 = .ok (.iload_n 1, 1) := by decide +kernel
theorem dX8_rename_48 : decode cX8_rename 48 = .ok (.aload_n 0, 1) := by decide +kernel
theorem dX8_rename_49 : decode cX8_rename 49 = .ok (.getfield 51, 3) := by decide +kernel
theorem dX8_rename_52 : decode cX8_rename 52 = .ok (.iconst 0, 1) := by decide +kernel
theorem dX8_rename_53 : decode cX8_rename 53 = .ok (.iload_n 2, 1) := by decide +kernel
theorem dX8_rename_54 : decode cX8_rename 54 = .ok (.invokevirtual 191, 3) := by decide +kernel
theorem dX8_rename_57 : decode cX8_rename 57 = .ok (.aload_n 0, 1) := by decide +kernel
theorem dX8_rename_58 : decode cX8_rename 58 = .ok (.getfield 51, 3) := by decide +kernel
theorem dX8_rename_61 : decode cX8_rename 61 = .ok (.iconst 0, 1) := by decide +kernel
theorem dX8_rename_62 : decode cX8_rename 62 = .ok (.putfield 70, 3) := by decide +kernel
theorem dX8_rename_65 : decode cX8_rename 65 = .ok (.aload_n 0, 1) := by decide +kernel
theorem dX8_rename_66 : decode cX8_rename 66 = .ok (.bipush 9, 2) := by decide +kernel
theorem dX8_rename_68 : decode cX8_rename 68 = .ok (.iload_n 1, 1) := by decide +kernel
theorem dX8_rename_69 : decode cX8_rename 69 = .ok (.iload_n 2, 1) := by decide +kernel
theorem dX8_rename_70 : decode cX8_rename 70 = .ok (.invokevirtual 112, 3) := by decide +kernel
theorem dX8_rename_73 : decode cX8_rename 73 = .ok (.iload_n 2, 1) := by decide +kernel
theorem dX8_rename_74 : decode cX8_rename 74 = .ok (.ireturn, 1) := by decide +kernel
theorem dX8_reverse_0 : decode cX8_reverse 0 = .ok (.aload_n 0, 1) := by decide +kernel
theorem dX8_reverse_1 : decode cX8_reverse 1 = .ok (.iload_n 1, 1) := by decide +kernel
theorem dX8_reverse_2 : decode cX8_reverse 2 = .ok (.invokevirtual 137, 3) := by decide +kernel
theorem dX8_reverse_5 : decode cX8_reverse 5 = .ok (.ifCond .ne 5, 3) := by decide +kernel
theorem dX8_reverse_8 : decode cX8_reverse 8 = .ok (.iconst (-1), 1) := by decide +kernel
theorem dX8_reverse_9 : decode cX8_reverse 9 = .ok (.ireturn, 1) := by decide +kernel
theorem dX8_reverse_10 : decode cX8_reverse 10 = .ok (.aload_n 0, 1) := by decide +kernel
theorem dX8_reverse_11 : decode cX8_reverse 11 = .ok (.getfield 12, 3) := by decide +kernel
theorem dX8_reverse_14 : decode cX8_reverse 14 = .ok (.getfield 195, 3) := by decide +kernel
theorem dX8_reverse_17 : decode cX8_reverse 17 = .ok (.iload_n 1, 1) := by decide +kernel
theorem dX8_reverse_18 : decode cX8_reverse 18 = .ok (.iaload, 1) := by decide +kernel
theorem dX8_reverse_19 : decode cX8_reverse 19 = .ok (.istore_n 2, 1) := by decide +kernel
theorem dX8_reverse_20 : decode cX8_reverse 20 = .ok (.aload_n 0, 1) := by decide +kernel
theorem dX8_reverse_21 : decode cX8_reverse 21 = .ok (.getfield 12, 3) := by decide +kernel
theorem dX8_reverse_24 : decode cX8_reverse 24 = .ok (.getfield 198, 3) := by decide +kernel
theorem dX8_reverse_27 : decode cX8_reverse 27 = .ok (.iload_n 1, 1) := by decide +kernel
theorem dX8_reverse_28 : decode cX8_reverse 28 = .ok (.iaload, 1) := by decide +kernel
theorem dX8_reverse_29 : decode cX8_reverse 29 = .ok (.istore_n 3, 1) := by decide +kernel
theorem dX8_reverse_30 : decode cX8_reverse 30 = .ok (.aload_n 0, 1) := by decide +kernel
theorem dX8_reverse_31 : decode cX8_reverse 31 = .ok (.getfield 12, 3) := by decide +kernel
theorem dX8_reverse_34 : decode cX8_reverse 34 = .ok (.getfield 151, 3) := by decide +kernel
theorem dX8_reverse_37 : decode cX8_reverse 37 = .ok (.iload_n 1, 1) := by decide +kernel
theorem dX8_reverse_38 : decode cX8_reverse 38 = .ok (.baload, 1) := by decide +kernel
theorem dX8_reverse_39 : decode cX8_reverse 39 = .ok (.ifCond .eq 41, 3) := by decide +kernel
theorem dX8_reverse_42 : decode cX8_reverse 42 = .ok (.aload_n 0, 1) := by decide +kernel
theorem dX8_reverse_43 : decode cX8_reverse 43 = .ok (.iload_n 1, 1) := by decide +kernel
theorem dX8_reverse_44 : decode cX8_reverse 44 = .ok (.invokevirtual 201, 3) := by decide +kernel
theorem dX8_reverse_47 : decode cX8_reverse 47 = .ok (.aload_n 0, 1) := by decide +kernel
theorem dX8_reverse_48 : decode cX8_reverse 48 = .ok (.getfield 23, 3) := by decide +kernel
theorem dX8_reverse_51 : decode cX8_reverse 51 = .ok (.iload_n 3, 1) := by decide +kernel
theorem dX8_reverse_52 : decode cX8_reverse 52 = .ok (.iload_n 2, 1) := by decide +kernel
theorem dX8_reverse_53 : decode cX8_reverse 53 = .ok (.aload_n 0, 1) := by decide +kernel
theorem dX8_reverse_54 : decode cX8_reverse 54 = .ok (.getfield 12, 3) := by decide +kernel
theorem dX8_reverse_57 : decode cX8_reverse 57 = .ok (.getfield 204, 3) := by decide +kernel
theorem dX8_reverse_60 : decode cX8_reverse 60 = .ok (.iload_n 1, 1) := by decide +kernel
theorem dX8_reverse_61 : decode cX8_reverse 61 = .ok (.iaload, 1) := by decide +kernel
theorem dX8_reverse_62 : decode cX8_reverse 62 = .ok (.aload_n 0, 1) := by decide +kernel
theorem dX8_reverse_63 : decode cX8_reverse 63 = .ok (.getfield 12, 3) := by decide +kernel
theorem dX8_reverse_66 : decode cX8_reverse 66 = .ok (.getfield 141, 3) := by decide +kernel
theorem dX8_reverse_69 : decode cX8_reverse 69 = .ok (.iload_n 1, 1) := by decide +kernel
theorem dX8_reverse_70 : decode cX8_reverse 70 = .ok (.iaload, 1) := by decide +kernel
theorem dX8_reverse_71 : decode cX8_reverse 71 = .ok (.invokevirtual 120, 3) := by decide +kernel
theorem dX8_reverse_74 : decode cX8_reverse 74 = .ok (.ifCond .ge 6, 3) := by decide +kernel
theorem dX8_reverse_77 : decode cX8_reverse 77 = .ok (.bipush (-5), 2) := by decide +kernel
theorem dX8_reverse_79 : decode cX8_reverse 79 = .ok (.ireturn, 1) := by decide +kernel
theorem dX8_reverse_80 : decode cX8_reverse 80 = .ok (.aload_n 0, 1) := by decide +kernel
theorem dX8_reverse_81 : decode cX8_reverse 81 = .ok (.getfield 12, 3) := by decide +kernel
theorem dX8_reverse_84 : decode cX8_reverse 84 = .ok (.getfield 151, 3) := by decide +kernel
theorem dX8_reverse_87 : decode cX8_reverse 87 = .ok (.iload_n 1, 1) := by decide +kernel
theorem dX8_reverse_88 : decode cX8_reverse 88 = .ok (.baload, 1) := by decide +kernel
theorem dX8_reverse_89 : decode cX8_reverse 89 = .ok (.invokestatic 159, 3) := by decide +kernel
theorem dX8_reverse_92 : decode cX8_reverse 92 = .ok (.istore 4, 2) := by decide +kernel
theorem dX8_reverse_94 : decode cX8_reverse 94 = .ok (.aload_n 0, 1) := by decide +kernel
theorem dX8_reverse_95 : decode cX8_reverse 95 = .ok (.getfield 29, 3) := by decide +kernel
theorem dX8_reverse_98 : decode cX8_reverse 98 = .ok (.aload_n 0, 1) := by decide +kernel
theorem dX8_reverse_99 : decode cX8_reverse 99 = .ok (.getfield 12, 3) := by decide +kernel
theorem dX8_reverse_102 : decode cX8_reverse 102 = .ok (.invokevirtual 105, 3) := by decide +kernel
theorem dX8_reverse_105 : decode cX8_reverse 105 = .ok (.aload_n 0, 1) := by decide +kernel
theorem dX8_reverse_106 : decode cX8_reverse 106 = .ok (.getfield 12, 3) := by decide +kernel
theorem dX8_reverse_109 : decode cX8_reverse 109 = .ok (.getfield 195, 3) := by decide +kernel
theorem dX8_reverse_112 : decode cX8_reverse 112 = .ok (.iload_n 1, 1) := by decide +kernel
theorem dX8_reverse_113 : decode cX8_reverse 113 = .ok (.iload_n 3, 1) := by decide +kernel
theorem dX8_reverse_114 : decode cX8_reverse 114 = .ok (.iastore, 1) := by decide +kernel
theorem dX8_reverse_115 : decode cX8_reverse 115 = .ok (.aload_n 0, 1) := by decide +kernel
theorem dX8_reverse_116 : decode cX8_reverse 116 = .ok (.getfield 12, 3) := by decide +kernel
theorem dX8_reverse_119 : decode cX8_reverse 119 = .ok (.getfield 198, 3) := by decide +kernel
theorem dX8_reverse_122 : decode cX8_reverse 122 = .ok (.iload_n 1, 1) := by decide +kernel
theorem dX8_reverse_123 : decode cX8_reverse 123 = .ok (.iload_n 2, 1) := by decide +kernel
theorem dX8_reverse_124 : decode cX8_reverse 124 = .ok (.iastore, 1) := by decide +kernel
theorem dX8_reverse_125 : decode cX8_reverse 125 = .ok (.aload_n 0, 1) := by decide +kernel
theorem dX8_reverse_126 : decode cX8_reverse 126 = .ok (.bipush 10, 2) := by decide +kernel
theorem dX8_reverse_128 : decode cX8_reverse 128 = .ok (.iload_n 1, 1) := by decide +kernel
theorem dX8_reverse_129 : decode cX8_reverse 129 = .ok (.iload 4, 2) := by decide +kernel
theorem dX8_reverse_131 : decode cX8_reverse 131 = .ok (.invokevirtual 112, 3) := by decide +kernel
theorem dX8_reverse_134 : decode cX8_reverse 134 = .ok (.iload 4, 2) := by decide +kernel
theorem dX8_reverse_136 : decode cX8_reverse 136 = .ok (.ireturn, 1) := by decide +kernel
theorem dX8_tighten_0 : decode cX8_tighten 0 = .ok (.iconst 0, 1) := by decide +kernel
theorem dX8_tighten_1 : decode cX8_tighten 1 = .ok (.istore_n 1, 1) := by decide +kernel
theorem dX8_tighten_2 : decode cX8_tighten 2 = .ok (.iconst 0, 1) := by decide +kernel
theorem dX8_tighten_3 : decode cX8_tighten 3 = .ok (.istore_n 2, 1) := by decide +kernel
theorem dX8_tighten_4 : decode cX8_tighten 4 = .ok (.iload_n 2, 1) := by decide +kernel
theorem dX8_tighten_5 : decode cX8_tighten 5 = .ok (.aload_n 0, 1) := by decide +kernel
theorem dX8_tighten_6 : decode cX8_tighten 6 = .ok (.getfield 12, 3) := by decide +kernel
theorem dX8_tighten_9 : decode cX8_tighten 9 = .ok (.getfield 96, 3) := by decide +kernel
theorem dX8_tighten_12 : decode cX8_tighten 12 = .ok (.if_icmp .ge 20, 3) := by decide +kernel
theorem dX8_tighten_15 : decode cX8_tighten 15 = .ok (.iload_n 1, 1) := by decide +kernel
theorem dX8_tighten_16 : decode cX8_tighten 16 = .ok (.aload_n 0, 1) := by decide +kernel
theorem dX8_tighten_17 : decode cX8_tighten 17 = .ok (.iload_n 2, 1) := by decide +kernel
theorem dX8_tighten_18 : decode cX8_tighten 18 = .ok (.invokevirtual 207, 3) := by decide +kernel
theorem dX8_tighten_21 : decode cX8_tighten 21 = .ok (.invokestatic 159, 3) := by decide +kernel
theorem dX8_tighten_24 : decode cX8_tighten 24 = .ok (.iadd, 1) := by decide +kernel
theorem dX8_tighten_25 : decode cX8_tighten 25 = .ok (.istore_n 1, 1) := by decide +kernel
theorem dX8_tighten_26 : decode cX8_tighten 26 = .ok (.iinc 2 1, 3) := by decide +kernel
theorem dX8_tighten_29 : decode cX8_tighten 29 = .ok (.goto (-25), 3) := by decide +kernel
theorem dX8_tighten_32 : decode cX8_tighten 32 = .ok (.iload_n 1, 1) := by decide +kernel
theorem dX8_tighten_33 : decode cX8_tighten 33 = .ok (.ifCond .ne 6, 3) := by decide +kernel
theorem dX8_tighten_36 : decode cX8_tighten 36 = .ok (.bipush (-2), 2) := by decide +kernel
theorem dX8_tighten_38 : decode cX8_tighten 38 = .ok (.ireturn, 1) := by decide +kernel
theorem dX8_tighten_39 : decode cX8_tighten 39 = .ok (.aload_n 0, 1) := by decide +kernel
theorem dX8_tighten_40 : decode cX8_tighten 40 = .ok (.getfield 29, 3) := by decide +kernel
theorem dX8_tighten_43 : decode cX8_tighten 43 = .ok (.aload_n 0, 1) := by decide +kernel
theorem dX8_tighten_44 : decode cX8_tighten 44 = .ok (.getfield 12, 3) := by decide +kernel
theorem dX8_tighten_47 : decode cX8_tighten 47 = .ok (.invokevirtual 105, 3) := by decide +kernel
theorem dX8_tighten_50 : decode cX8_tighten 50 = .ok (.iconst 0, 1) := by decide +kernel
theorem dX8_tighten_51 : decode cX8_tighten 51 = .ok (.istore_n 2, 1) := by decide +kernel
theorem dX8_tighten_52 : decode cX8_tighten 52 = .ok (.iload_n 2, 1) := by decide +kernel
theorem dX8_tighten_53 : decode cX8_tighten 53 = .ok (.aload_n 0, 1) := by decide +kernel
theorem dX8_tighten_54 : decode cX8_tighten 54 = .ok (.getfield 12, 3) := by decide +kernel
theorem dX8_tighten_57 : decode cX8_tighten 57 = .ok (.getfield 96, 3) := by decide +kernel
theorem dX8_tighten_60 : decode cX8_tighten 60 = .ok (.if_icmp .ge 31, 3) := by decide +kernel
theorem dX8_tighten_63 : decode cX8_tighten 63 = .ok (.aload_n 0, 1) := by decide +kernel
theorem dX8_tighten_64 : decode cX8_tighten 64 = .ok (.iload_n 2, 1) := by decide +kernel
theorem dX8_tighten_65 : decode cX8_tighten 65 = .ok (.invokevirtual 207, 3) := by decide +kernel
theorem dX8_tighten_68 : decode cX8_tighten 68 = .ok (.ifCond .eq 17, 3) := by decide +kernel
theorem dX8_tighten_71 : decode cX8_tighten 71 = .ok (.aload_n 0, 1) := by decide +kernel
theorem dX8_tighten_72 : decode cX8_tighten 72 = .ok (.getfield 12, 3) := by decide +kernel
theorem dX8_tighten_75 : decode cX8_tighten 75 = .ok (.getfield 141, 3) := by decide +kernel
theorem dX8_tighten_78 : decode cX8_tighten 78 = .ok (.iload_n 2, 1) := by decide +kernel
theorem dX8_tighten_79 : decode cX8_tighten 79 = .ok (.aload_n 0, 1) := by decide +kernel
theorem dX8_tighten_80 : decode cX8_tighten 80 = .ok (.iload_n 2, 1) := by decide +kernel
theorem dX8_tighten_81 : decode cX8_tighten 81 = .ok (.invokevirtual 210, 3) := by decide +kernel
theorem dX8_tighten_84 : decode cX8_tighten 84 = .ok (.iastore, 1) := by decide +kernel
theorem dX8_tighten_85 : decode cX8_tighten 85 = .ok (.iinc 2 1, 3) := by decide +kernel
theorem dX8_tighten_88 : decode cX8_tighten 88 = .ok (.goto (-36), 3) := by decide +kernel
theorem dX8_tighten_91 : decode cX8_tighten 91 = .ok (.aload_n 0, 1) := by decide +kernel
theorem dX8_tighten_92 : decode cX8_tighten 92 = .ok (.bipush 11, 2) := by decide +kernel
theorem dX8_tighten_94 : decode cX8_tighten 94 = .ok (.iload_n 1, 1) := by decide +kernel
theorem dX8_tighten_95 : decode cX8_tighten 95 = .ok (.aload_n 0, 1) := by decide +kernel
theorem dX8_tighten_96 : decode cX8_tighten 96 = .ok (.getfield 19, 3) := by decide +kernel
theorem dX8_tighten_99 : decode cX8_tighten 99 = .ok (.invokevirtual 214, 3) := by decide +kernel
theorem dX8_tighten_102 : decode cX8_tighten 102 = .ok (.invokevirtual 112, 3) := by decide +kernel
theorem dX8_tighten_105 : decode cX8_tighten 105 = .ok (.iload_n 1, 1) := by decide +kernel
theorem dX8_tighten_106 : decode cX8_tighten 106 = .ok (.ireturn, 1) := by decide +kernel
theorem dX8_thin_0 : decode cX8_thin 0 = .ok (.aload_n 0, 1) := by decide +kernel
theorem dX8_thin_1 : decode cX8_thin 1 = .ok (.iconst 0, 1) := by decide +kernel
theorem dX8_thin_2 : decode cX8_thin 2 = .ok (.invokevirtual 217, 3) := by decide +kernel
theorem dX8_thin_5 : decode cX8_thin 5 = .ok (.istore_n 1, 1) := by decide +kernel
theorem dX8_thin_6 : decode cX8_thin 6 = .ok (.iload_n 1, 1) := by decide +kernel
theorem dX8_thin_7 : decode cX8_thin 7 = .ok (.bipush (-2), 2) := by decide +kernel
theorem dX8_thin_9 : decode cX8_thin 9 = .ok (.if_icmp .ne 6, 3) := by decide +kernel
theorem dX8_thin_12 : decode cX8_thin 12 = .ok (.bipush (-2), 2) := by decide +kernel
theorem dX8_thin_14 : decode cX8_thin 14 = .ok (.ireturn, 1) := by decide +kernel
theorem dX8_thin_15 : decode cX8_thin 15 = .ok (.aload_n 0, 1) := by decide +kernel
theorem dX8_thin_16 : decode cX8_thin 16 = .ok (.getfield 29, 3) := by decide +kernel
theorem dX8_thin_19 : decode cX8_thin 19 = .ok (.aload_n 0, 1) := by decide +kernel
theorem dX8_thin_20 : decode cX8_thin 20 = .ok (.getfield 12, 3) := by decide +kernel
theorem dX8_thin_23 : decode cX8_thin 23 = .ok (.invokevirtual 105, 3) := by decide +kernel
theorem dX8_thin_26 : decode cX8_thin 26 = .ok (.aload_n 0, 1) := by decide +kernel
theorem dX8_thin_27 : decode cX8_thin 27 = .ok (.getfield 12, 3) := by decide +kernel
theorem dX8_thin_30 : decode cX8_thin 30 = .ok (.getfield 96, 3) := by decide +kernel
theorem dX8_thin_33 : decode cX8_thin 33 = .ok (.istore_n 2, 1) := by decide +kernel
theorem dX8_thin_34 : decode cX8_thin 34 = .ok (.iconst 0, 1) := by decide +kernel
theorem dX8_thin_35 : decode cX8_thin 35 = .ok (.istore_n 3, 1) := by decide +kernel
theorem dX8_thin_36 : decode cX8_thin 36 = .ok (.iload_n 3, 1) := by decide +kernel
theorem dX8_thin_37 : decode cX8_thin 37 = .ok (.bipush 24, 2) := by decide +kernel
theorem dX8_thin_39 : decode cX8_thin 39 = .ok (.if_icmp .ge 29, 3) := by decide +kernel
theorem dX8_thin_42 : decode cX8_thin 42 = .ok (.iload_n 1, 1) := by decide +kernel
theorem dX8_thin_43 : decode cX8_thin 43 = .ok (.bipush (-2), 2) := by decide +kernel
theorem dX8_thin_45 : decode cX8_thin 45 = .ok (.if_icmp .eq 23, 3) := by decide +kernel
theorem dX8_thin_48 : decode cX8_thin 48 = .ok (.aload_n 0, 1) := by decide +kernel
theorem dX8_thin_49 : decode cX8_thin 49 = .ok (.getfield 12, 3) := by decide +kernel
theorem dX8_thin_52 : decode cX8_thin 52 = .ok (.iload_n 1, 1) := by decide +kernel
theorem dX8_thin_53 : decode cX8_thin 53 = .ok (.invokevirtual 145, 3) := by decide +kernel
theorem dX8_thin_56 : decode cX8_thin 56 = .ok (.aload_n 0, 1) := by decide +kernel
theorem dX8_thin_57 : decode cX8_thin 57 = .ok (.iload_n 1, 1) := by decide +kernel
theorem dX8_thin_58 : decode cX8_thin 58 = .ok (.invokevirtual 217, 3) := by decide +kernel
theorem dX8_thin_61 : decode cX8_thin 61 = .ok (.istore_n 1, 1) := by decide +kernel
theorem dX8_thin_62 : decode cX8_thin 62 = .ok (.iinc 3 1, 3) := by decide +kernel
theorem dX8_thin_65 : decode cX8_thin 65 = .ok (.goto (-29), 3) := by decide +kernel
theorem dX8_thin_68 : decode cX8_thin 68 = .ok (.iload_n 2, 1) := by decide +kernel
theorem dX8_thin_69 : decode cX8_thin 69 = .ok (.aload_n 0, 1) := by decide +kernel
theorem dX8_thin_70 : decode cX8_thin 70 = .ok (.getfield 12, 3) := by decide +kernel
theorem dX8_thin_73 : decode cX8_thin 73 = .ok (.getfield 96, 3) := by decide +kernel
theorem dX8_thin_76 : decode cX8_thin 76 = .ok (.isub, 1) := by decide +kernel
theorem dX8_thin_77 : decode cX8_thin 77 = .ok (.istore_n 3, 1) := by decide +kernel
theorem dX8_thin_78 : decode cX8_thin 78 = .ok (.aload_n 0, 1) := by decide +kernel
theorem dX8_thin_79 : decode cX8_thin 79 = .ok (.bipush 12, 2) := by decide +kernel
theorem dX8_thin_81 : decode cX8_thin 81 = .ok (.iload_n 3, 1) := by decide +kernel
theorem dX8_thin_82 : decode cX8_thin 82 = .ok (.aload_n 0, 1) := by decide +kernel
theorem dX8_thin_83 : decode cX8_thin 83 = .ok (.getfield 12, 3) := by decide +kernel
theorem dX8_thin_86 : decode cX8_thin 86 = .ok (.getfield 96, 3) := by decide +kernel
theorem dX8_thin_89 : decode cX8_thin 89 = .ok (.invokevirtual 112, 3) := by decide +kernel
theorem dX8_thin_92 : decode cX8_thin 92 = .ok (.iload_n 3, 1) := by decide +kernel
theorem dX8_thin_93 : decode cX8_thin 93 = .ok (.ireturn, 1) := by decide +kernel
theorem dX8_pinAll_0 : decode cX8_pinAll 0 = .ok (.aload_n 0, 1) := by decide +kernel
theorem dX8_pinAll_1 : decode cX8_pinAll 1 = .ok (.getfield 12, 3) := by decide +kernel
theorem dX8_pinAll_4 : decode cX8_pinAll 4 = .ok (.getfield 102, 3) := by decide +kernel
theorem dX8_pinAll_7 : decode cX8_pinAll 7 = .ok (.iconst 1, 1) := by decide +kernel
theorem dX8_pinAll_8 : decode cX8_pinAll 8 = .ok (.isub, 1) := by decide +kernel
theorem dX8_pinAll_9 : decode cX8_pinAll 9 = .ok (.aload_n 0, 1) := by decide +kernel
theorem dX8_pinAll_10 : decode cX8_pinAll 10 = .ok (.getfield 12, 3) := by decide +kernel
theorem dX8_pinAll_13 : decode cX8_pinAll 13 = .ok (.invokevirtual 179, 3) := by decide +kernel
theorem dX8_pinAll_16 : decode cX8_pinAll 16 = .ok (.isub, 1) := by decide +kernel
theorem dX8_pinAll_17 : decode cX8_pinAll 17 = .ok (.istore_n 1, 1) := by decide +kernel
theorem dX8_pinAll_18 : decode cX8_pinAll 18 = .ok (.iload_n 1, 1) := by decide +kernel
theorem dX8_pinAll_19 : decode cX8_pinAll 19 = .ok (.ifCond .ne 6, 3) := by decide +kernel
theorem dX8_pinAll_22 : decode cX8_pinAll 22 = .ok (.bipush (-2), 2) := by decide +kernel
theorem dX8_pinAll_24 : decode cX8_pinAll 24 = .ok (.ireturn, 1) := by decide +kernel
theorem dX8_pinAll_25 : decode cX8_pinAll 25 = .ok (.aload_n 0, 1) := by decide +kernel
theorem dX8_pinAll_26 : decode cX8_pinAll 26 = .ok (.getfield 29, 3) := by decide +kernel
theorem dX8_pinAll_29 : decode cX8_pinAll 29 = .ok (.aload_n 0, 1) := by decide +kernel
theorem dX8_pinAll_30 : decode cX8_pinAll 30 = .ok (.getfield 12, 3) := by decide +kernel
theorem dX8_pinAll_33 : decode cX8_pinAll 33 = .ok (.invokevirtual 105, 3) := by decide +kernel
theorem dX8_pinAll_36 : decode cX8_pinAll 36 = .ok (.iconst 1, 1) := by decide +kernel
theorem dX8_pinAll_37 : decode cX8_pinAll 37 = .ok (.istore_n 2, 1) := by decide +kernel
theorem dX8_pinAll_38 : decode cX8_pinAll 38 = .ok (.iload_n 2, 1) := by decide +kernel
theorem dX8_pinAll_39 : decode cX8_pinAll 39 = .ok (.aload_n 0, 1) := by decide +kernel
theorem dX8_pinAll_40 : decode cX8_pinAll 40 = .ok (.getfield 12, 3) := by decide +kernel
theorem dX8_pinAll_43 : decode cX8_pinAll 43 = .ok (.getfield 102, 3) := by decide +kernel
theorem dX8_pinAll_46 : decode cX8_pinAll 46 = .ok (.if_icmp .ge 37, 3) := by decide +kernel
theorem dX8_pinAll_49 : decode cX8_pinAll 49 = .ok (.aload_n 0, 1) := by decide +kernel
theorem dX8_pinAll_50 : decode cX8_pinAll 50 = .ok (.getfield 12, 3) := by decide +kernel
theorem dX8_pinAll_53 : decode cX8_pinAll 53 = .ok (.iload_n 2, 1) := by decide +kernel
theorem dX8_pinAll_54 : decode cX8_pinAll 54 = .ok (.invokevirtual 182, 3) := by decide +kernel
theorem dX8_pinAll_57 : decode cX8_pinAll 57 = .ok (.ifCond .ne 20, 3) := by decide +kernel
theorem dX8_pinAll_60 : decode cX8_pinAll 60 = .ok (.aload_n 0, 1) := by decide +kernel
theorem dX8_pinAll_61 : decode cX8_pinAll 61 = .ok (.getfield 12, 3) := by decide +kernel
theorem dX8_pinAll_64 : decode cX8_pinAll 64 = .ok (.getfield 176, 3) := by decide +kernel
theorem dX8_pinAll_67 : decode cX8_pinAll 67 = .ok (.iload_n 2, 1) := by decide +kernel
theorem dX8_pinAll_68 : decode cX8_pinAll 68 = .ok (.aload_n 0, 1) := by decide +kernel
theorem dX8_pinAll_69 : decode cX8_pinAll 69 = .ok (.getfield 19, 3) := by decide +kernel
theorem dX8_pinAll_72 : decode cX8_pinAll 72 = .ok (.iload_n 2, 1) := by decide +kernel
theorem dX8_pinAll_73 : decode cX8_pinAll 73 = .ok (.invokevirtual 220, 3) := by decide +kernel
theorem dX8_pinAll_76 : decode cX8_pinAll 76 = .ok (.iastore, 1) := by decide +kernel
theorem dX8_pinAll_77 : decode cX8_pinAll 77 = .ok (.iinc 2 1, 3) := by decide +kernel
theorem dX8_pinAll_80 : decode cX8_pinAll 80 = .ok (.goto (-42), 3) := by decide +kernel
theorem dX8_pinAll_83 : decode cX8_pinAll 83 = .ok (.aload_n 0, 1) := by decide +kernel
theorem dX8_pinAll_84 : decode cX8_pinAll 84 = .ok (.bipush 13, 2) := by decide +kernel
theorem dX8_pinAll_86 : decode cX8_pinAll 86 = .ok (.iload_n 1, 1) := by decide +kernel
theorem dX8_pinAll_87 : decode cX8_pinAll 87 = .ok (.aload_n 0, 1) := by decide +kernel
theorem dX8_pinAll_88 : decode cX8_pinAll 88 = .ok (.getfield 12, 3) := by decide +kernel
theorem dX8_pinAll_91 : decode cX8_pinAll 91 = .ok (.invokevirtual 179, 3) := by decide +kernel
theorem dX8_pinAll_94 : decode cX8_pinAll 94 = .ok (.invokevirtual 112, 3) := by decide +kernel
theorem dX8_pinAll_97 : decode cX8_pinAll 97 = .ok (.iload_n 1, 1) := by decide +kernel
theorem dX8_pinAll_98 : decode cX8_pinAll 98 = .ok (.ireturn, 1) := by decide +kernel
theorem dX8_keep_0 : decode cX8_keep 0 = .ok (.iload_n 1, 1) := by decide +kernel
theorem dX8_keep_1 : decode cX8_keep 1 = .ok (.invokestatic 223, 3) := by decide +kernel
theorem dX8_keep_4 : decode cX8_keep 4 = .ok (.ifCond .ne 5, 3) := by decide +kernel
theorem dX8_keep_7 : decode cX8_keep 7 = .ok (.iconst (-1), 1) := by decide +kernel
theorem dX8_keep_8 : decode cX8_keep 8 = .ok (.ireturn, 1) := by decide +kernel
theorem dX8_keep_9 : decode cX8_keep 9 = .ok (.aload_n 0, 1) := by decide +kernel
theorem dX8_keep_10 : decode cX8_keep 10 = .ok (.getfield 36, 3) := by decide +kernel
theorem dX8_keep_13 : decode cX8_keep 13 = .ok (.getfield 226, 3) := by decide +kernel
theorem dX8_keep_16 : decode cX8_keep 16 = .ok (.iload_n 1, 1) := by decide +kernel
theorem dX8_keep_17 : decode cX8_keep 17 = .ok (.aaload, 1) := by decide +kernel
theorem dX8_keep_18 : decode cX8_keep 18 = .ok (.aload_n 0, 1) := by decide +kernel
theorem dX8_keep_19 : decode cX8_keep 19 = .ok (.getfield 12, 3) := by decide +kernel
theorem dX8_keep_22 : decode cX8_keep 22 = .ok (.invokevirtual 90, 3) := by decide +kernel
theorem dX8_keep_25 : decode cX8_keep 25 = .ok (.aload_n 0, 1) := by decide +kernel
end
section
theorem dX8_keep_26 : decode cX8_keep 26 = .ok (.getfield 36, 3) := by decide +kernel
theorem dX8_keep_29 : decode cX8_keep 29 = .ok (.getfield 230, 3) := by decide +kernel
theorem dX8_keep_32 : decode cX8_keep 32 = .ok (.iload_n 1, 1) := by decide +kernel
theorem dX8_keep_33 : decode cX8_keep 33 = .ok (.iconst 1, 1) := by decide +kernel
theorem dX8_keep_34 : decode cX8_keep 34 = .ok (.bastore, 1) := by decide +kernel
theorem dX8_keep_35 : decode cX8_keep 35 = .ok (.aload_n 0, 1) := by decide +kernel
theorem dX8_keep_36 : decode cX8_keep 36 = .ok (.getfield 12, 3) := by decide +kernel
theorem dX8_keep_39 : decode cX8_keep 39 = .ok (.getfield 96, 3) := by decide +kernel
theorem dX8_keep_42 : decode cX8_keep 42 = .ok (.ireturn, 1) := by decide +kernel
theorem dX8_restore_0 : decode cX8_restore 0 = .ok (.iload_n 1, 1) := by decide +kernel
theorem dX8_restore_1 : decode cX8_restore 1 = .ok (.invokestatic 223, 3) := by decide +kernel
theorem dX8_restore_4 : decode cX8_restore 4 = .ok (.ifCond .ne 5, 3) := by decide +kernel
theorem dX8_restore_7 : decode cX8_restore 7 = .ok (.iconst (-1), 1) := by decide +kernel
theorem dX8_restore_8 : decode cX8_restore 8 = .ok (.ireturn, 1) := by decide +kernel
theorem dX8_restore_9 : decode cX8_restore 9 = .ok (.aload_n 0, 1) := by decide +kernel
theorem dX8_restore_10 : decode cX8_restore 10 = .ok (.getfield 36, 3) := by decide +kernel
theorem dX8_restore_13 : decode cX8_restore 13 = .ok (.getfield 230, 3) := by decide +kernel
theorem dX8_restore_16 : decode cX8_restore 16 = .ok (.iload_n 1, 1) := by decide +kernel
theorem dX8_restore_17 : decode cX8_restore 17 = .ok (.baload, 1) := by decide +kernel
theorem dX8_restore_18 : decode cX8_restore 18 = .ok (.ifCond .ne 6, 3) := by decide +kernel
theorem dX8_restore_21 : decode cX8_restore 21 = .ok (.bipush (-2), 2) := by decide +kernel
theorem dX8_restore_23 : decode cX8_restore 23 = .ok (.ireturn, 1) := by decide +kernel
theorem dX8_restore_24 : decode cX8_restore 24 = .ok (.aload_n 0, 1) := by decide +kernel
theorem dX8_restore_25 : decode cX8_restore 25 = .ok (.getfield 29, 3) := by decide +kernel
theorem dX8_restore_28 : decode cX8_restore 28 = .ok (.aload_n 0, 1) := by decide +kernel
theorem dX8_restore_29 : decode cX8_restore 29 = .ok (.getfield 12, 3) := by decide +kernel
theorem dX8_restore_32 : decode cX8_restore 32 = .ok (.invokevirtual 105, 3) := by decide +kernel
theorem dX8_restore_35 : decode cX8_restore 35 = .ok (.aload_n 0, 1) := by decide +kernel
theorem dX8_restore_36 : decode cX8_restore 36 = .ok (.getfield 12, 3) := by decide +kernel
theorem dX8_restore_39 : decode cX8_restore 39 = .ok (.aload_n 0, 1) := by decide +kernel
theorem dX8_restore_40 : decode cX8_restore 40 = .ok (.getfield 36, 3) := by decide +kernel
theorem dX8_restore_43 : decode cX8_restore 43 = .ok (.getfield 226, 3) := by decide +kernel
theorem dX8_restore_46 : decode cX8_restore 46 = .ok (.iload_n 1, 1) := by decide +kernel
theorem dX8_restore_47 : decode cX8_restore 47 = .ok (.aaload, 1) := by decide +kernel
theorem dX8_restore_48 : decode cX8_restore 48 = .ok (.invokevirtual 90, 3) := by decide +kernel
theorem dX8_restore_51 : decode cX8_restore 51 = .ok (.aload_n 0, 1) := by decide +kernel
theorem dX8_restore_52 : decode cX8_restore 52 = .ok (.getfield 19, 3) := by decide +kernel
theorem dX8_restore_55 : decode cX8_restore 55 = .ok (.aload_n 0, 1) := by decide +kernel
theorem dX8_restore_56 : decode cX8_restore 56 = .ok (.getfield 12, 3) := by decide +kernel
theorem dX8_restore_59 : decode cX8_restore 59 = .ok (.iconst (-1), 1) := by decide +kernel
theorem dX8_restore_60 : decode cX8_restore 60 = .ok (.invokevirtual 66, 3) := by decide +kernel
theorem dX8_restore_63 : decode cX8_restore 63 = .ok (.aload_n 0, 1) := by decide +kernel
theorem dX8_restore_64 : decode cX8_restore 64 = .ok (.getfield 12, 3) := by decide +kernel
theorem dX8_restore_67 : decode cX8_restore 67 = .ok (.getfield 96, 3) := by decide +kernel
theorem dX8_restore_70 : decode cX8_restore 70 = .ok (.ireturn, 1) := by decide +kernel
theorem dX8_undo_0 : decode cX8_undo 0 = .ok (.aload_n 0, 1) := by decide +kernel
theorem dX8_undo_1 : decode cX8_undo 1 = .ok (.getfield 29, 3) := by decide +kernel
theorem dX8_undo_4 : decode cX8_undo 4 = .ok (.getfield 233, 3) := by decide +kernel
theorem dX8_undo_7 : decode cX8_undo 7 = .ok (.ifCond .ne 5, 3) := by decide +kernel
theorem dX8_undo_10 : decode cX8_undo 10 = .ok (.iconst (-1), 1) := by decide +kernel
theorem dX8_undo_11 : decode cX8_undo 11 = .ok (.ireturn, 1) := by decide +kernel
theorem dX8_undo_12 : decode cX8_undo 12 = .ok (.aload_n 0, 1) := by decide +kernel
theorem dX8_undo_13 : decode cX8_undo 13 = .ok (.getfield 29, 3) := by decide +kernel
theorem dX8_undo_16 : decode cX8_undo 16 = .ok (.aload_n 0, 1) := by decide +kernel
theorem dX8_undo_17 : decode cX8_undo 17 = .ok (.getfield 12, 3) := by decide +kernel
theorem dX8_undo_20 : decode cX8_undo 20 = .ok (.invokevirtual 236, 3) := by decide +kernel
theorem dX8_undo_23 : decode cX8_undo 23 = .ok (.aload_n 0, 1) := by decide +kernel
theorem dX8_undo_24 : decode cX8_undo 24 = .ok (.getfield 19, 3) := by decide +kernel
theorem dX8_undo_27 : decode cX8_undo 27 = .ok (.aload_n 0, 1) := by decide +kernel
theorem dX8_undo_28 : decode cX8_undo 28 = .ok (.getfield 12, 3) := by decide +kernel
theorem dX8_undo_31 : decode cX8_undo 31 = .ok (.iconst (-1), 1) := by decide +kernel
theorem dX8_undo_32 : decode cX8_undo 32 = .ok (.invokevirtual 66, 3) := by decide +kernel
theorem dX8_undo_35 : decode cX8_undo 35 = .ok (.aload_n 0, 1) := by decide +kernel
theorem dX8_undo_36 : decode cX8_undo 36 = .ok (.getfield 29, 3) := by decide +kernel
theorem dX8_undo_39 : decode cX8_undo 39 = .ok (.getfield 233, 3) := by decide +kernel
theorem dX8_undo_42 : decode cX8_undo 42 = .ok (.ireturn, 1) := by decide +kernel
theorem dX8_value_0 : decode cX8_value 0 = .ok (.iload_n 1, 1) := by decide +kernel
theorem dX8_value_1 : decode cX8_value 1 = .ok (.tableswitch 168 0 12 #[67, 75, 83, 91, 99, 107, 115, 120, 125, 133, 141, 149, 160], 67) := by decide +kernel
theorem dX8_value_68 : decode cX8_value 68 = .ok (.aload_n 0, 1) := by decide +kernel
theorem dX8_value_69 : decode cX8_value 69 = .ok (.getfield 12, 3) := by decide +kernel
theorem dX8_value_72 : decode cX8_value 72 = .ok (.getfield 185, 3) := by decide +kernel
theorem dX8_value_75 : decode cX8_value 75 = .ok (.ireturn, 1) := by decide +kernel
theorem dX8_value_76 : decode cX8_value 76 = .ok (.aload_n 0, 1) := by decide +kernel
theorem dX8_value_77 : decode cX8_value 77 = .ok (.getfield 12, 3) := by decide +kernel
theorem dX8_value_80 : decode cX8_value 80 = .ok (.getfield 102, 3) := by decide +kernel
theorem dX8_value_83 : decode cX8_value 83 = .ok (.ireturn, 1) := by decide +kernel
theorem dX8_value_84 : decode cX8_value 84 = .ok (.aload_n 0, 1) := by decide +kernel
theorem dX8_value_85 : decode cX8_value 85 = .ok (.getfield 12, 3) := by decide +kernel
theorem dX8_value_88 : decode cX8_value 88 = .ok (.getfield 96, 3) := by decide +kernel
theorem dX8_value_91 : decode cX8_value 91 = .ok (.ireturn, 1) := by decide +kernel
theorem dX8_value_92 : decode cX8_value 92 = .ok (.aload_n 0, 1) := by decide +kernel
theorem dX8_value_93 : decode cX8_value 93 = .ok (.getfield 12, 3) := by decide +kernel
theorem dX8_value_96 : decode cX8_value 96 = .ok (.invokevirtual 239, 3) := by decide +kernel
theorem dX8_value_99 : decode cX8_value 99 = .ok (.ireturn, 1) := by decide +kernel
theorem dX8_value_100 : decode cX8_value 100 = .ok (.aload_n 0, 1) := by decide +kernel
theorem dX8_value_101 : decode cX8_value 101 = .ok (.getfield 12, 3) := by decide +kernel
theorem dX8_value_104 : decode cX8_value 104 = .ok (.invokevirtual 179, 3) := by decide +kernel
theorem dX8_value_107 : decode cX8_value 107 = .ok (.ireturn, 1) := by decide +kernel
theorem dX8_value_108 : decode cX8_value 108 = .ok (.aload_n 0, 1) := by decide +kernel
theorem dX8_value_109 : decode cX8_value 109 = .ok (.getfield 19, 3) := by decide +kernel
theorem dX8_value_112 : decode cX8_value 112 = .ok (.getfield 242, 3) := by decide +kernel
theorem dX8_value_115 : decode cX8_value 115 = .ok (.ireturn, 1) := by decide +kernel
theorem dX8_value_116 : decode cX8_value 116 = .ok (.aload_n 0, 1) := by decide +kernel
theorem dX8_value_117 : decode cX8_value 117 = .ok (.invokevirtual 245, 3) := by decide +kernel
theorem dX8_value_120 : decode cX8_value 120 = .ok (.ireturn, 1) := by decide +kernel
theorem dX8_value_121 : decode cX8_value 121 = .ok (.aload_n 0, 1) := by decide +kernel
theorem dX8_value_122 : decode cX8_value 122 = .ok (.invokevirtual 248, 3) := by decide +kernel
theorem dX8_value_125 : decode cX8_value 125 = .ok (.ireturn, 1) := by decide +kernel
theorem dX8_value_126 : decode cX8_value 126 = .ok (.aload_n 0, 1) := by decide +kernel
theorem dX8_value_127 : decode cX8_value 127 = .ok (.getfield 19, 3) := by decide +kernel
theorem dX8_value_130 : decode cX8_value 130 = .ok (.invokevirtual 251, 3) := by decide +kernel
theorem dX8_value_133 : decode cX8_value 133 = .ok (.ireturn, 1) := by decide +kernel
theorem dX8_value_134 : decode cX8_value 134 = .ok (.aload_n 0, 1) := by decide +kernel
theorem dX8_value_135 : decode cX8_value 135 = .ok (.getfield 19, 3) := by decide +kernel
theorem dX8_value_138 : decode cX8_value 138 = .ok (.invokevirtual 188, 3) := by decide +kernel
theorem dX8_value_141 : decode cX8_value 141 = .ok (.ireturn, 1) := by decide +kernel
theorem dX8_value_142 : decode cX8_value 142 = .ok (.aload_n 0, 1) := by decide +kernel
theorem dX8_value_143 : decode cX8_value 143 = .ok (.getfield 19, 3) := by decide +kernel
theorem dX8_value_146 : decode cX8_value 146 = .ok (.invokevirtual 214, 3) := by decide +kernel
theorem dX8_value_149 : decode cX8_value 149 = .ok (.ireturn, 1) := by decide +kernel
theorem dX8_value_150 : decode cX8_value 150 = .ok (.aload_n 0, 1) := by decide +kernel
theorem dX8_value_151 : decode cX8_value 151 = .ok (.getfield 12, 3) := by decide +kernel
theorem dX8_value_154 : decode cX8_value 154 = .ok (.getfield 124, 3) := by decide +kernel
theorem dX8_value_157 : decode cX8_value 157 = .ok (.getfield 254, 3) := by decide +kernel
theorem dX8_value_160 : decode cX8_value 160 = .ok (.ireturn, 1) := by decide +kernel
theorem dX8_value_161 : decode cX8_value 161 = .ok (.aload_n 0, 1) := by decide +kernel
theorem dX8_value_162 : decode cX8_value 162 = .ok (.getfield 29, 3) := by decide +kernel
theorem dX8_value_165 : decode cX8_value 165 = .ok (.getfield 233, 3) := by decide +kernel
theorem dX8_value_168 : decode cX8_value 168 = .ok (.ireturn, 1) := by decide +kernel
theorem dX8_value_169 : decode cX8_value 169 = .ok (.iconst (-1), 1) := by decide +kernel
theorem dX8_value_170 : decode cX8_value 170 = .ok (.ireturn, 1) := by decide +kernel
theorem dX8_letter_0 : decode cX8_letter 0 = .ok (.aload_n 0, 1) := by decide +kernel
theorem dX8_letter_1 : decode cX8_letter 1 = .ok (.iload_n 1, 1) := by decide +kernel
theorem dX8_letter_2 : decode cX8_letter 2 = .ok (.invokevirtual 163, 3) := by decide +kernel
theorem dX8_letter_5 : decode cX8_letter 5 = .ok (.ifCond .eq 7, 3) := by decide +kernel
theorem dX8_letter_8 : decode cX8_letter 8 = .ok (.iload_n 2, 1) := by decide +kernel
theorem dX8_letter_9 : decode cX8_letter 9 = .ok (.ifCond .ge 5, 3) := by decide +kernel
theorem dX8_letter_12 : decode cX8_letter 12 = .ok (.iconst (-1), 1) := by decide +kernel
theorem dX8_letter_13 : decode cX8_letter 13 = .ok (.ireturn, 1) := by decide +kernel
theorem dX8_letter_14 : decode cX8_letter 14 = .ok (.iload_n 2, 1) := by decide +kernel
theorem dX8_letter_15 : decode cX8_letter 15 = .ok (.aload_n 0, 1) := by decide +kernel
theorem dX8_letter_16 : decode cX8_letter 16 = .ok (.getfield 12, 3) := by decide +kernel
theorem dX8_letter_19 : decode cX8_letter 19 = .ok (.getfield 255, 3) := by decide +kernel
theorem dX8_letter_22 : decode cX8_letter 22 = .ok (.iload_n 1, 1) := by decide +kernel
theorem dX8_letter_23 : decode cX8_letter 23 = .ok (.iaload, 1) := by decide +kernel
theorem dX8_letter_24 : decode cX8_letter 24 = .ok (.if_icmp .lt 6, 3) := by decide +kernel
theorem dX8_letter_27 : decode cX8_letter 27 = .ok (.bipush (-2), 2) := by decide +kernel
theorem dX8_letter_29 : decode cX8_letter 29 = .ok (.ireturn, 1) := by decide +kernel
theorem dX8_letter_30 : decode cX8_letter 30 = .ok (.aload_n 0, 1) := by decide +kernel
theorem dX8_letter_31 : decode cX8_letter 31 = .ok (.getfield 12, 3) := by decide +kernel
theorem dX8_letter_34 : decode cX8_letter 34 = .ok (.iload_n 1, 1) := by decide +kernel
theorem dX8_letter_35 : decode cX8_letter 35 = .ok (.iload_n 2, 1) := by decide +kernel
theorem dX8_letter_36 : decode cX8_letter 36 = .ok (.invokevirtual 258, 3) := by decide +kernel
theorem dX8_letter_39 : decode cX8_letter 39 = .ok (.bipush 97, 2) := by decide +kernel
theorem dX8_letter_41 : decode cX8_letter 41 = .ok (.isub, 1) := by decide +kernel
theorem dX8_letter_42 : decode cX8_letter 42 = .ok (.iconst 1, 1) := by decide +kernel
theorem dX8_letter_43 : decode cX8_letter 43 = .ok (.iadd, 1) := by decide +kernel
theorem dX8_letter_44 : decode cX8_letter 44 = .ok (.ireturn, 1) := by decide +kernel
theorem dX8_gap_0 : decode cX8_gap 0 = .ok (.aload_n 0, 1) := by decide +kernel
theorem dX8_gap_1 : decode cX8_gap 1 = .ok (.iload_n 1, 1) := by decide +kernel
theorem dX8_gap_2 : decode cX8_gap 2 = .ok (.invokevirtual 137, 3) := by decide +kernel
theorem dX8_gap_5 : decode cX8_gap 5 = .ok (.ifCond .ne 5, 3) := by decide +kernel
theorem dX8_gap_8 : decode cX8_gap 8 = .ok (.iconst (-1), 1) := by decide +kernel
theorem dX8_gap_9 : decode cX8_gap 9 = .ok (.ireturn, 1) := by decide +kernel
theorem dX8_gap_10 : decode cX8_gap 10 = .ok (.iload_n 2, 1) := by decide +kernel
theorem dX8_gap_11 : decode cX8_gap 11 = .ok (.tableswitch 144 0 7 #[45, 55, 65, 75, 85, 98, 107, 116], 45) := by decide +kernel
theorem dX8_gap_56 : decode cX8_gap 56 = .ok (.aload_n 0, 1) := by decide +kernel
theorem dX8_gap_57 : decode cX8_gap 57 = .ok (.getfield 12, 3) := by decide +kernel
theorem dX8_gap_60 : decode cX8_gap 60 = .ok (.getfield 195, 3) := by decide +kernel
theorem dX8_gap_63 : decode cX8_gap 63 = .ok (.iload_n 1, 1) := by decide +kernel
theorem dX8_gap_64 : decode cX8_gap 64 = .ok (.iaload, 1) := by decide +kernel
theorem dX8_gap_65 : decode cX8_gap 65 = .ok (.ireturn, 1) := by decide +kernel
theorem dX8_gap_66 : decode cX8_gap 66 = .ok (.aload_n 0, 1) := by decide +kernel
theorem dX8_gap_67 : decode cX8_gap 67 = .ok (.getfield 12, 3) := by decide +kernel
theorem dX8_gap_70 : decode cX8_gap 70 = .ok (.getfield 198, 3) := by decide +kernel
theorem dX8_gap_73 : decode cX8_gap 73 = .ok (.iload_n 1, 1) := by decide +kernel
theorem dX8_gap_74 : decode cX8_gap 74 = .ok (.iaload, 1) := by decide +kernel
theorem dX8_gap_75 : decode cX8_gap 75 = .ok (.ireturn, 1) := by decide +kernel
theorem dX8_gap_76 : decode cX8_gap 76 = .ok (.aload_n 0, 1) := by decide +kernel
theorem dX8_gap_77 : decode cX8_gap 77 = .ok (.getfield 12, 3) := by decide +kernel
theorem dX8_gap_80 : decode cX8_gap 80 = .ok (.getfield 204, 3) := by decide +kernel
theorem dX8_gap_83 : decode cX8_gap 83 = .ok (.iload_n 1, 1) := by decide +kernel
theorem dX8_gap_84 : decode cX8_gap 84 = .ok (.iaload, 1) := by decide +kernel
theorem dX8_gap_85 : decode cX8_gap 85 = .ok (.ireturn, 1) := by decide +kernel
theorem dX8_gap_86 : decode cX8_gap 86 = .ok (.aload_n 0, 1) := by decide +kernel
theorem dX8_gap_87 : decode cX8_gap 87 = .ok (.getfield 12, 3) := by decide +kernel
theorem dX8_gap_90 : decode cX8_gap 90 = .ok (.getfield 141, 3) := by decide +kernel
theorem dX8_gap_93 : decode cX8_gap 93 = .ok (.iload_n 1, 1) := by decide +kernel
theorem dX8_gap_94 : decode cX8_gap 94 = .ok (.iaload, 1) := by decide +kernel
theorem dX8_gap_95 : decode cX8_gap 95 = .ok (.ireturn, 1) := by decide +kernel
theorem dX8_gap_96 : decode cX8_gap 96 = .ok (.aload_n 0, 1) := by decide +kernel
theorem dX8_gap_97 : decode cX8_gap 97 = .ok (.getfield 12, 3) := by decide +kernel
theorem dX8_gap_100 : decode cX8_gap 100 = .ok (.getfield 151, 3) := by decide +kernel
theorem dX8_gap_103 : decode cX8_gap 103 = .ok (.iload_n 1, 1) := by decide +kernel
theorem dX8_gap_104 : decode cX8_gap 104 = .ok (.baload, 1) := by decide +kernel
theorem dX8_gap_105 : decode cX8_gap 105 = .ok (.invokestatic 159, 3) := by decide +kernel
theorem dX8_gap_108 : decode cX8_gap 108 = .ok (.ireturn, 1) := by decide +kernel
theorem dX8_gap_109 : decode cX8_gap 109 = .ok (.aload_n 0, 1) := by decide +kernel
theorem dX8_gap_110 : decode cX8_gap 110 = .ok (.iload_n 1, 1) := by decide +kernel
theorem dX8_gap_111 : decode cX8_gap 111 = .ok (.invokevirtual 261, 3) := by decide +kernel
theorem dX8_gap_114 : decode cX8_gap 114 = .ok (.invokestatic 159, 3) := by decide +kernel
theorem dX8_gap_117 : decode cX8_gap 117 = .ok (.ireturn, 1) := by decide +kernel
theorem dX8_gap_118 : decode cX8_gap 118 = .ok (.aload_n 0, 1) := by decide +kernel
theorem dX8_gap_119 : decode cX8_gap 119 = .ok (.iload_n 1, 1) := by decide +kernel
theorem dX8_gap_120 : decode cX8_gap 120 = .ok (.invokevirtual 264, 3) := by decide +kernel
theorem dX8_gap_123 : decode cX8_gap 123 = .ok (.invokestatic 159, 3) := by decide +kernel
theorem dX8_gap_126 : decode cX8_gap 126 = .ok (.ireturn, 1) := by decide +kernel
theorem dX8_gap_127 : decode cX8_gap 127 = .ok (.aload_n 0, 1) := by decide +kernel
theorem dX8_gap_128 : decode cX8_gap 128 = .ok (.getfield 12, 3) := by decide +kernel
theorem dX8_gap_131 : decode cX8_gap 131 = .ok (.getfield 151, 3) := by decide +kernel
theorem dX8_gap_134 : decode cX8_gap 134 = .ok (.iload_n 1, 1) := by decide +kernel
theorem dX8_gap_135 : decode cX8_gap 135 = .ok (.baload, 1) := by decide +kernel
theorem dX8_gap_136 : decode cX8_gap 136 = .ok (.ifCond .eq 17, 3) := by decide +kernel
theorem dX8_gap_139 : decode cX8_gap 139 = .ok (.aload_n 0, 1) := by decide +kernel
theorem dX8_gap_140 : decode cX8_gap 140 = .ok (.iload_n 1, 1) := by decide +kernel
theorem dX8_gap_141 : decode cX8_gap 141 = .ok (.invokevirtual 267, 3) := by decide +kernel
theorem dX8_gap_144 : decode cX8_gap 144 = .ok (.aload_n 0, 1) := by decide +kernel
theorem dX8_gap_145 : decode cX8_gap 145 = .ok (.iload_n 1, 1) := by decide +kernel
theorem dX8_gap_146 : decode cX8_gap 146 = .ok (.invokevirtual 270, 3) := by decide +kernel
theorem dX8_gap_149 : decode cX8_gap 149 = .ok (.isub, 1) := by decide +kernel
theorem dX8_gap_150 : decode cX8_gap 150 = .ok (.goto 4, 3) := by decide +kernel
theorem dX8_gap_153 : decode cX8_gap 153 = .ok (.iconst 0, 1) := by decide +kernel
theorem dX8_gap_154 : decode cX8_gap 154 = .ok (.ireturn, 1) := by decide +kernel
theorem dX8_gap_155 : decode cX8_gap 155 = .ok (.iconst (-1), 1) := by decide +kernel
theorem dX8_gap_156 : decode cX8_gap 156 = .ok (.ireturn, 1) := by decide +kernel
theorem dX8_event_0 : decode cX8_event 0 = .ok (.aload_n 0, 1) := by decide +kernel
theorem dX8_event_1 : decode cX8_event 1 = .ok (.iload_n 1, 1) := by decide +kernel
theorem dX8_event_2 : decode cX8_event 2 = .ok (.invokevirtual 163, 3) := by decide +kernel
theorem dX8_event_5 : decode cX8_event 5 = .ok (.ifCond .ne 5, 3) := by decide +kernel
theorem dX8_event_8 : decode cX8_event 8 = .ok (.iconst (-1), 1) := by decide +kernel
theorem dX8_event_9 : decode cX8_event 9 = .ok (.ireturn, 1) := by decide +kernel
theorem dX8_event_10 : decode cX8_event 10 = .ok (.iload_n 2, 1) := by decide +kernel
theorem dX8_event_11 : decode cX8_event 11 = .ok (.tableswitch 95 0 4 #[33, 42, 51, 60, 86], 33) := by decide +kernel
theorem dX8_event_44 : decode cX8_event 44 = .ok (.aload_n 0, 1) := by decide +kernel
theorem dX8_event_45 : decode cX8_event 45 = .ok (.getfield 19, 3) := by decide +kernel
theorem dX8_event_48 : decode cX8_event 48 = .ok (.iload_n 1, 1) := by decide +kernel
theorem dX8_event_49 : decode cX8_event 49 = .ok (.invokevirtual 220, 3) := by decide +kernel
theorem dX8_event_52 : decode cX8_event 52 = .ok (.ireturn, 1) := by decide +kernel
theorem dX8_event_53 : decode cX8_event 53 = .ok (.aload_n 0, 1) := by decide +kernel
theorem dX8_event_54 : decode cX8_event 54 = .ok (.getfield 19, 3) := by decide +kernel
theorem dX8_event_57 : decode cX8_event 57 = .ok (.iload_n 1, 1) := by decide +kernel
theorem dX8_event_58 : decode cX8_event 58 = .ok (.invokevirtual 273, 3) := by decide +kernel
theorem dX8_event_61 : decode cX8_event 61 = .ok (.ireturn, 1) := by decide +kernel
theorem dX8_event_62 : decode cX8_event 62 = .ok (.aload_n 0, 1) := by decide +kernel
theorem dX8_event_63 : decode cX8_event 63 = .ok (.getfield 19, 3) := by decide +kernel
theorem dX8_event_66 : decode cX8_event 66 = .ok (.iload_n 1, 1) := by decide +kernel
theorem dX8_event_67 : decode cX8_event 67 = .ok (.invokevirtual 276, 3) := by decide +kernel
theorem dX8_event_70 : decode cX8_event 70 = .ok (.ireturn, 1) := by decide +kernel
theorem dX8_event_71 : decode cX8_event 71 = .ok (.aload_n 0, 1) := by decide +kernel
theorem dX8_event_72 : decode cX8_event 72 = .ok (.getfield 12, 3) := by decide +kernel
theorem dX8_event_75 : decode cX8_event 75 = .ok (.iload_n 1, 1) := by decide +kernel
theorem dX8_event_76 : decode cX8_event 76 = .ok (.invokevirtual 182, 3) := by decide +kernel
theorem dX8_event_79 : decode cX8_event 79 = .ok (.ifCond .eq 15, 3) := by decide +kernel
theorem dX8_event_82 : decode cX8_event 82 = .ok (.aload_n 0, 1) := by decide +kernel
theorem dX8_event_83 : decode cX8_event 83 = .ok (.getfield 12, 3) := by decide +kernel
theorem dX8_event_86 : decode cX8_event 86 = .ok (.getfield 176, 3) := by decide +kernel
theorem dX8_event_89 : decode cX8_event 89 = .ok (.iload_n 1, 1) := by decide +kernel
theorem dX8_event_90 : decode cX8_event 90 = .ok (.iaload, 1) := by decide +kernel
theorem dX8_event_91 : decode cX8_event 91 = .ok (.goto 5, 3) := by decide +kernel
theorem dX8_event_94 : decode cX8_event 94 = .ok (.bipush (-2), 2) := by decide +kernel
theorem dX8_event_96 : decode cX8_event 96 = .ok (.ireturn, 1) := by decide +kernel
theorem dX8_event_97 : decode cX8_event 97 = .ok (.aload_n 0, 1) := by decide +kernel
theorem dX8_event_98 : decode cX8_event 98 = .ok (.getfield 12, 3) := by decide +kernel
theorem dX8_event_101 : decode cX8_event 101 = .ok (.iload_n 1, 1) := by decide +kernel
theorem dX8_event_102 : decode cX8_event 102 = .ok (.invokevirtual 279, 3) := by decide +kernel
theorem dX8_event_105 : decode cX8_event 105 = .ok (.ireturn, 1) := by decide +kernel
theorem dX8_event_106 : decode cX8_event 106 = .ok (.iconst (-1), 1) := by decide +kernel
theorem dX8_event_107 : decode cX8_event 107 = .ok (.ireturn, 1) := by decide +kernel
theorem dX8_bound_0 : decode cX8_bound 0 = .ok (.aload_n 0, 1) := by decide +kernel
theorem dX8_bound_1 : decode cX8_bound 1 = .ok (.iload_n 1, 1) := by decide +kernel
theorem dX8_bound_2 : decode cX8_bound 2 = .ok (.invokevirtual 163, 3) := by decide +kernel
theorem dX8_bound_5 : decode cX8_bound 5 = .ok (.ifCond .eq 23, 3) := by decide +kernel
theorem dX8_bound_8 : decode cX8_bound 8 = .ok (.aload_n 0, 1) := by decide +kernel
theorem dX8_bound_9 : decode cX8_bound 9 = .ok (.iload_n 2, 1) := by decide +kernel
theorem dX8_bound_10 : decode cX8_bound 10 = .ok (.invokevirtual 163, 3) := by decide +kernel
theorem dX8_bound_13 : decode cX8_bound 13 = .ok (.ifCond .eq 15, 3) := by decide +kernel
theorem dX8_bound_16 : decode cX8_bound 16 = .ok (.aload_n 0, 1) := by decide +kernel
theorem dX8_bound_17 : decode cX8_bound 17 = .ok (.getfield 19, 3) := by decide +kernel
theorem dX8_bound_20 : decode cX8_bound 20 = .ok (.iload_n 1, 1) := by decide +kernel
theorem dX8_bound_21 : decode cX8_bound 21 = .ok (.iload_n 2, 1) := by decide +kernel
theorem dX8_bound_22 : decode cX8_bound 22 = .ok (.invokevirtual 282, 3) := by decide +kernel
theorem dX8_bound_25 : decode cX8_bound 25 = .ok (.goto 6, 3) := by decide +kernel
theorem dX8_bound_28 : decode cX8_bound 28 = .ok (.ldc_w 285, 3) := by decide +kernel
theorem dX8_bound_31 : decode cX8_bound 31 = .ok (.ireturn, 1) := by decide +kernel
theorem dX8_way_0 : decode cX8_way 0 = .ok (.aload_n 0, 1) := by decide +kernel
theorem dX8_way_1 : decode cX8_way 1 = .ok (.iload_n 1, 1) := by decide +kernel
theorem dX8_way_2 : decode cX8_way 2 = .ok (.iload_n 2, 1) := by decide +kernel
theorem dX8_way_3 : decode cX8_way 3 = .ok (.invokevirtual 286, 3) := by decide +kernel
theorem dX8_way_6 : decode cX8_way 6 = .ok (.ifCond .eq 7, 3) := by decide +kernel
theorem dX8_way_9 : decode cX8_way 9 = .ok (.iload_n 3, 1) := by decide +kernel
theorem dX8_way_10 : decode cX8_way 10 = .ok (.ifCond .ge 5, 3) := by decide +kernel
theorem dX8_way_13 : decode cX8_way 13 = .ok (.iconst (-1), 1) := by decide +kernel
theorem dX8_way_14 : decode cX8_way 14 = .ok (.ireturn, 1) := by decide +kernel
theorem dX8_way_15 : decode cX8_way 15 = .ok (.aload_n 0, 1) := by decide +kernel
theorem dX8_way_16 : decode cX8_way 16 = .ok (.getfield 19, 3) := by decide +kernel
theorem dX8_way_19 : decode cX8_way 19 = .ok (.iload_n 1, 1) := by decide +kernel
theorem dX8_way_20 : decode cX8_way 20 = .ok (.iload_n 2, 1) := by decide +kernel
theorem dX8_way_21 : decode cX8_way 21 = .ok (.iload_n 3, 1) := by decide +kernel
theorem dX8_way_22 : decode cX8_way 22 = .ok (.invokevirtual 289, 3) := by decide +kernel
theorem dX8_way_25 : decode cX8_way 25 = .ok (.ireturn, 1) := by decide +kernel
theorem dX8_wayLength_0 : decode cX8_wayLength 0 = .ok (.aload_n 0, 1) := by decide +kernel
theorem dX8_wayLength_1 : decode cX8_wayLength 1 = .ok (.iload_n 1, 1) := by decide +kernel
theorem dX8_wayLength_2 : decode cX8_wayLength 2 = .ok (.iload_n 2, 1) := by decide +kernel
theorem dX8_wayLength_3 : decode cX8_wayLength 3 = .ok (.invokevirtual 286, 3) := by decide +kernel
theorem dX8_wayLength_6 : decode cX8_wayLength 6 = .ok (.ifCond .eq 15, 3) := by decide +kernel
theorem dX8_wayLength_9 : decode cX8_wayLength 9 = .ok (.aload_n 0, 1) := by decide +kernel
theorem dX8_wayLength_10 : decode cX8_wayLength 10 = .ok (.getfield 19, 3) := by decide +kernel
theorem dX8_wayLength_13 : decode cX8_wayLength 13 = .ok (.iload_n 1, 1) := by decide +kernel
theorem dX8_wayLength_14 : decode cX8_wayLength 14 = .ok (.iload_n 2, 1) := by decide +kernel
theorem dX8_wayLength_15 : decode cX8_wayLength 15 = .ok (.invokevirtual 293, 3) := by decide +kernel
theorem dX8_wayLength_18 : decode cX8_wayLength 18 = .ok (.goto 4, 3) := by decide +kernel
theorem dX8_wayLength_21 : decode cX8_wayLength 21 = .ok (.iconst (-1), 1) := by decide +kernel
theorem dX8_wayLength_22 : decode cX8_wayLength 22 = .ok (.ireturn, 1) := by decide +kernel
theorem dX8_relation_0 : decode cX8_relation 0 = .ok (.aload_n 0, 1) := by decide +kernel
theorem dX8_relation_1 : decode cX8_relation 1 = .ok (.iload_n 1, 1) := by decide +kernel
theorem dX8_relation_2 : decode cX8_relation 2 = .ok (.iload_n 2, 1) := by decide +kernel
theorem dX8_relation_3 : decode cX8_relation 3 = .ok (.invokevirtual 286, 3) := by decide +kernel
theorem dX8_relation_6 : decode cX8_relation 6 = .ok (.ifCond .eq 12, 3) := by decide +kernel
theorem dX8_relation_9 : decode cX8_relation 9 = .ok (.aload_n 0, 1) := by decide +kernel
theorem dX8_relation_10 : decode cX8_relation 10 = .ok (.iload_n 1, 1) := by decide +kernel
theorem dX8_relation_11 : decode cX8_relation 11 = .ok (.iload_n 2, 1) := by decide +kernel
theorem dX8_relation_12 : decode cX8_relation 12 = .ok (.invokevirtual 296, 3) := by decide +kernel
theorem dX8_relation_15 : decode cX8_relation 15 = .ok (.goto 4, 3) := by decide +kernel
theorem dX8_relation_18 : decode cX8_relation 18 = .ok (.iconst (-1), 1) := by decide +kernel
theorem dX8_relation_19 : decode cX8_relation 19 = .ok (.ireturn, 1) := by decide +kernel
theorem dX8_play_0 : decode cX8_play 0 = .ok (.aload_n 0, 1) := by decide +kernel
theorem dX8_play_1 : decode cX8_play 1 = .ok (.iload_n 1, 1) := by decide +kernel
theorem dX8_play_2 : decode cX8_play 2 = .ok (.iload_n 2, 1) := by decide +kernel
theorem dX8_play_3 : decode cX8_play 3 = .ok (.invokevirtual 286, 3) := by decide +kernel
theorem dX8_play_6 : decode cX8_play 6 = .ok (.ifCond .ne 5, 3) := by decide +kernel
theorem dX8_play_9 : decode cX8_play 9 = .ok (.iconst (-1), 1) := by decide +kernel
theorem dX8_play_10 : decode cX8_play 10 = .ok (.ireturn, 1) := by decide +kernel
theorem dX8_play_11 : decode cX8_play 11 = .ok (.aload_n 0, 1) := by decide +kernel
theorem dX8_play_12 : decode cX8_play 12 = .ok (.getfield 19, 3) := by decide +kernel
theorem dX8_play_15 : decode cX8_play 15 = .ok (.iload_n 1, 1) := by decide +kernel
theorem dX8_play_16 : decode cX8_play 16 = .ok (.iload_n 2, 1) := by decide +kernel
theorem dX8_play_17 : decode cX8_play 17 = .ok (.invokevirtual 282, 3) := by decide +kernel
theorem dX8_play_20 : decode cX8_play 20 = .ok (.aload_n 0, 1) := by decide +kernel
theorem dX8_play_21 : decode cX8_play 21 = .ok (.getfield 19, 3) := by decide +kernel
theorem dX8_play_24 : decode cX8_play 24 = .ok (.iload_n 2, 1) := by decide +kernel
theorem dX8_play_25 : decode cX8_play 25 = .ok (.iload_n 1, 1) := by decide +kernel
theorem dX8_play_26 : decode cX8_play 26 = .ok (.invokevirtual 282, 3) := by decide +kernel
theorem dX8_play_29 : decode cX8_play 29 = .ok (.iadd, 1) := by decide +kernel
theorem dX8_play_30 : decode cX8_play 30 = .ok (.ireturn, 1) := by decide +kernel
theorem dX8_pairs_0 : decode cX8_pairs 0 = .ok (.iload_n 1, 1) := by decide +kernel
theorem dX8_pairs_1 : decode cX8_pairs 1 = .ok (.ifCond .lt 8, 3) := by decide +kernel
theorem dX8_pairs_4 : decode cX8_pairs 4 = .ok (.iload_n 1, 1) := by decide +kernel
theorem dX8_pairs_5 : decode cX8_pairs 5 = .ok (.iconst 5, 1) := by decide +kernel
theorem dX8_pairs_6 : decode cX8_pairs 6 = .ok (.if_icmp .le 5, 3) := by decide +kernel
theorem dX8_pairs_9 : decode cX8_pairs 9 = .ok (.iconst (-1), 1) := by decide +kernel
theorem dX8_pairs_10 : decode cX8_pairs 10 = .ok (.ireturn, 1) := by decide +kernel
theorem dX8_pairs_11 : decode cX8_pairs 11 = .ok (.iconst 0, 1) := by decide +kernel
theorem dX8_pairs_12 : decode cX8_pairs 12 = .ok (.istore_n 2, 1) := by decide +kernel
theorem dX8_pairs_13 : decode cX8_pairs 13 = .ok (.iconst 0, 1) := by decide +kernel
theorem dX8_pairs_14 : decode cX8_pairs 14 = .ok (.istore_n 3, 1) := by decide +kernel
theorem dX8_pairs_15 : decode cX8_pairs 15 = .ok (.iload_n 3, 1) := by decide +kernel
theorem dX8_pairs_16 : decode cX8_pairs 16 = .ok (.aload_n 0, 1) := by decide +kernel
theorem dX8_pairs_17 : decode cX8_pairs 17 = .ok (.getfield 12, 3) := by decide +kernel
theorem dX8_pairs_20 : decode cX8_pairs 20 = .ok (.getfield 102, 3) := by decide +kernel
theorem dX8_pairs_23 : decode cX8_pairs 23 = .ok (.if_icmp .ge 54, 3) := by decide +kernel
theorem dX8_pairs_26 : decode cX8_pairs 26 = .ok (.iload_n 3, 1) := by decide +kernel
theorem dX8_pairs_27 : decode cX8_pairs 27 = .ok (.iconst 1, 1) := by decide +kernel
theorem dX8_pairs_28 : decode cX8_pairs 28 = .ok (.iadd, 1) := by decide +kernel
theorem dX8_pairs_29 : decode cX8_pairs 29 = .ok (.istore 4, 2) := by decide +kernel
theorem dX8_pairs_31 : decode cX8_pairs 31 = .ok (.iload 4, 2) := by decide +kernel
theorem dX8_pairs_33 : decode cX8_pairs 33 = .ok (.aload_n 0, 1) := by decide +kernel
theorem dX8_pairs_34 : decode cX8_pairs 34 = .ok (.getfield 12, 3) := by decide +kernel
theorem dX8_pairs_37 : decode cX8_pairs 37 = .ok (.getfield 102, 3) := by decide +kernel
theorem dX8_pairs_40 : decode cX8_pairs 40 = .ok (.if_icmp .ge 31, 3) := by decide +kernel
theorem dX8_pairs_43 : decode cX8_pairs 43 = .ok (.iload_n 2, 1) := by decide +kernel
theorem dX8_pairs_44 : decode cX8_pairs 44 = .ok (.aload_n 0, 1) := by decide +kernel
theorem dX8_pairs_45 : decode cX8_pairs 45 = .ok (.iload_n 3, 1) := by decide +kernel
theorem dX8_pairs_46 : decode cX8_pairs 46 = .ok (.iload 4, 2) := by decide +kernel
theorem dX8_pairs_48 : decode cX8_pairs 48 = .ok (.invokevirtual 296, 3) := by decide +kernel
theorem dX8_pairs_51 : decode cX8_pairs 51 = .ok (.iload_n 1, 1) := by decide +kernel
theorem dX8_pairs_52 : decode cX8_pairs 52 = .ok (.if_icmp .ne 7, 3) := by decide +kernel
theorem dX8_pairs_55 : decode cX8_pairs 55 = .ok (.iconst 1, 1) := by decide +kernel
theorem dX8_pairs_56 : decode cX8_pairs 56 = .ok (.goto 4, 3) := by decide +kernel
theorem dX8_pairs_59 : decode cX8_pairs 59 = .ok (.iconst 0, 1) := by decide +kernel
theorem dX8_pairs_60 : decode cX8_pairs 60 = .ok (.invokestatic 159, 3) := by decide +kernel
theorem dX8_pairs_63 : decode cX8_pairs 63 = .ok (.iadd, 1) := by decide +kernel
theorem dX8_pairs_64 : decode cX8_pairs 64 = .ok (.istore_n 2, 1) := by decide +kernel
theorem dX8_pairs_65 : decode cX8_pairs 65 = .ok (.iinc 4 1, 3) := by decide +kernel
theorem dX8_pairs_68 : decode cX8_pairs 68 = .ok (.goto (-37), 3) := by decide +kernel
theorem dX8_pairs_71 : decode cX8_pairs 71 = .ok (.iinc 3 1, 3) := by decide +kernel
theorem dX8_pairs_74 : decode cX8_pairs 74 = .ok (.goto (-59), 3) := by decide +kernel
theorem dX8_pairs_77 : decode cX8_pairs 77 = .ok (.iload_n 2, 1) := by decide +kernel
theorem dX8_pairs_78 : decode cX8_pairs 78 = .ok (.ireturn, 1) := by decide +kernel
theorem dX8_ordered_0 : decode cX8_ordered 0 = .ok (.iload_n 1, 1) := by decide +kernel
theorem dX8_ordered_1 : decode cX8_ordered 1 = .ok (.ifCond .ge 5, 3) := by decide +kernel
theorem dX8_ordered_4 : decode cX8_ordered 4 = .ok (.iconst (-1), 1) := by decide +kernel
theorem dX8_ordered_5 : decode cX8_ordered 5 = .ok (.ireturn, 1) := by decide +kernel
theorem dX8_ordered_6 : decode cX8_ordered 6 = .ok (.iconst 0, 1) := by decide +kernel
theorem dX8_ordered_7 : decode cX8_ordered 7 = .ok (.istore_n 2, 1) := by decide +kernel
theorem dX8_ordered_8 : decode cX8_ordered 8 = .ok (.iload_n 2, 1) := by decide +kernel
theorem dX8_ordered_9 : decode cX8_ordered 9 = .ok (.aload_n 0, 1) := by decide +kernel
theorem dX8_ordered_10 : decode cX8_ordered 10 = .ok (.getfield 12, 3) := by decide +kernel
theorem dX8_ordered_13 : decode cX8_ordered 13 = .ok (.getfield 102, 3) := by decide +kernel
theorem dX8_ordered_16 : decode cX8_ordered 16 = .ok (.if_icmp .ge 23, 3) := by decide +kernel
theorem dX8_ordered_19 : decode cX8_ordered 19 = .ok (.aload_n 0, 1) := by decide +kernel
theorem dX8_ordered_20 : decode cX8_ordered 20 = .ok (.getfield 19, 3) := by decide +kernel
theorem dX8_ordered_23 : decode cX8_ordered 23 = .ok (.iload_n 2, 1) := by decide +kernel
theorem dX8_ordered_24 : decode cX8_ordered 24 = .ok (.invokevirtual 305, 3) := by decide +kernel
theorem dX8_ordered_27 : decode cX8_ordered 27 = .ok (.iload_n 1, 1) := by decide +kernel
theorem dX8_ordered_28 : decode cX8_ordered 28 = .ok (.if_icmp .ne 5, 3) := by decide +kernel
theorem dX8_ordered_31 : decode cX8_ordered 31 = .ok (.iload_n 2, 1) := by decide +kernel
theorem dX8_ordered_32 : decode cX8_ordered 32 = .ok (.ireturn, 1) := by decide +kernel
theorem dX8_ordered_33 : decode cX8_ordered 33 = .ok (.iinc 2 1, 3) := by decide +kernel
theorem dX8_ordered_36 : decode cX8_ordered 36 = .ok (.goto (-28), 3) := by decide +kernel
theorem dX8_ordered_39 : decode cX8_ordered 39 = .ok (.bipush (-2), 2) := by decide +kernel
theorem dX8_ordered_41 : decode cX8_ordered 41 = .ok (.ireturn, 1) := by decide +kernel
theorem dX8_middle_0 : decode cX8_middle 0 = .ok (.aload_n 0, 1) := by decide +kernel
theorem dX8_middle_1 : decode cX8_middle 1 = .ok (.iload_n 1, 1) := by decide +kernel
theorem dX8_middle_2 : decode cX8_middle 2 = .ok (.invokevirtual 163, 3) := by decide +kernel
theorem dX8_middle_5 : decode cX8_middle 5 = .ok (.ifCond .ne 5, 3) := by decide +kernel
theorem dX8_middle_8 : decode cX8_middle 8 = .ok (.iconst (-1), 1) := by decide +kernel
theorem dX8_middle_9 : decode cX8_middle 9 = .ok (.ireturn, 1) := by decide +kernel
theorem dX8_middle_10 : decode cX8_middle 10 = .ok (.aload_n 0, 1) := by decide +kernel
theorem dX8_middle_11 : decode cX8_middle 11 = .ok (.getfield 23, 3) := by decide +kernel
theorem dX8_middle_14 : decode cX8_middle 14 = .ok (.aload_n 0, 1) := by decide +kernel
theorem dX8_middle_15 : decode cX8_middle 15 = .ok (.getfield 19, 3) := by decide +kernel
theorem dX8_middle_18 : decode cX8_middle 18 = .ok (.invokevirtual 308, 3) := by decide +kernel
theorem dX8_middle_21 : decode cX8_middle 21 = .ok (.iconst 1, 1) := by decide +kernel
theorem dX8_middle_22 : decode cX8_middle 22 = .ok (.istore_n 2, 1) := by decide +kernel
theorem dX8_middle_23 : decode cX8_middle 23 = .ok (.iload_n 2, 1) := by decide +kernel
theorem dX8_middle_24 : decode cX8_middle 24 = .ok (.iload_n 1, 1) := by decide +kernel
theorem dX8_middle_25 : decode cX8_middle 25 = .ok (.if_icmp .gt 36, 3) := by decide +kernel
theorem dX8_middle_28 : decode cX8_middle 28 = .ok (.aload_n 0, 1) := by decide +kernel
theorem dX8_middle_29 : decode cX8_middle 29 = .ok (.getfield 23, 3) := by decide +kernel
theorem dX8_middle_32 : decode cX8_middle 32 = .ok (.iload_n 2, 1) := by decide +kernel
theorem dX8_middle_33 : decode cX8_middle 33 = .ok (.aload_n 0, 1) := by decide +kernel
theorem dX8_middle_34 : decode cX8_middle 34 = .ok (.getfield 23, 3) := by decide +kernel
theorem dX8_middle_37 : decode cX8_middle 37 = .ok (.iload_n 2, 1) := by decide +kernel
theorem dX8_middle_38 : decode cX8_middle 38 = .ok (.invokevirtual 220, 3) := by decide +kernel
theorem dX8_middle_41 : decode cX8_middle 41 = .ok (.aload_n 0, 1) := by decide +kernel
theorem dX8_middle_42 : decode cX8_middle 42 = .ok (.getfield 23, 3) := by decide +kernel
theorem dX8_middle_45 : decode cX8_middle 45 = .ok (.iload_n 2, 1) := by decide +kernel
theorem dX8_middle_46 : decode cX8_middle 46 = .ok (.invokevirtual 273, 3) := by decide +kernel
theorem dX8_middle_49 : decode cX8_middle 49 = .ok (.iadd, 1) := by decide +kernel
theorem dX8_middle_50 : decode cX8_middle 50 = .ok (.iconst 2, 1) := by decide +kernel
theorem dX8_middle_51 : decode cX8_middle 51 = .ok (.idiv, 1) := by decide +kernel
theorem dX8_middle_52 : decode cX8_middle 52 = .ok (.invokevirtual 312, 3) := by decide +kernel
theorem dX8_middle_55 : decode cX8_middle 55 = .ok (.iinc 2 1, 3) := by decide +kernel
theorem dX8_middle_58 : decode cX8_middle 58 = .ok (.goto (-35), 3) := by decide +kernel
theorem dX8_middle_61 : decode cX8_middle 61 = .ok (.aload_n 0, 1) := by decide +kernel
theorem dX8_middle_62 : decode cX8_middle 62 = .ok (.getfield 23, 3) := by decide +kernel
theorem dX8_middle_65 : decode cX8_middle 65 = .ok (.iload_n 1, 1) := by decide +kernel
theorem dX8_middle_66 : decode cX8_middle 66 = .ok (.invokevirtual 220, 3) := by decide +kernel
theorem dX8_middle_69 : decode cX8_middle 69 = .ok (.ireturn, 1) := by decide +kernel
theorem dX8_lastly_0 : decode cX8_lastly 0 = .ok (.iload_n 1, 1) := by decide +kernel
theorem dX8_lastly_1 : decode cX8_lastly 1 = .ok (.ifCond .ge 5, 3) := by decide +kernel
theorem dX8_lastly_4 : decode cX8_lastly 4 = .ok (.iconst (-1), 1) := by decide +kernel
theorem dX8_lastly_5 : decode cX8_lastly 5 = .ok (.ireturn, 1) := by decide +kernel
theorem dX8_lastly_6 : decode cX8_lastly 6 = .ok (.iconst 0, 1) := by decide +kernel
theorem dX8_lastly_7 : decode cX8_lastly 7 = .ok (.istore_n 2, 1) := by decide +kernel
theorem dX8_lastly_8 : decode cX8_lastly 8 = .ok (.iload_n 2, 1) := by decide +kernel
theorem dX8_lastly_9 : decode cX8_lastly 9 = .ok (.aload_n 0, 1) := by decide +kernel
theorem dX8_lastly_10 : decode cX8_lastly 10 = .ok (.getfield 12, 3) := by decide +kernel
theorem dX8_lastly_13 : decode cX8_lastly 13 = .ok (.getfield 102, 3) := by decide +kernel
theorem dX8_lastly_16 : decode cX8_lastly 16 = .ok (.if_icmp .ge 23, 3) := by decide +kernel
theorem dX8_lastly_19 : decode cX8_lastly 19 = .ok (.aload_n 0, 1) := by decide +kernel
theorem dX8_lastly_20 : decode cX8_lastly 20 = .ok (.getfield 19, 3) := by decide +kernel
theorem dX8_lastly_23 : decode cX8_lastly 23 = .ok (.iload_n 2, 1) := by decide +kernel
theorem dX8_lastly_24 : decode cX8_lastly 24 = .ok (.invokevirtual 316, 3) := by decide +kernel
theorem dX8_lastly_27 : decode cX8_lastly 27 = .ok (.iload_n 1, 1) := by decide +kernel
theorem dX8_lastly_28 : decode cX8_lastly 28 = .ok (.if_icmp .ne 5, 3) := by decide +kernel
theorem dX8_lastly_31 : decode cX8_lastly 31 = .ok (.iload_n 2, 1) := by decide +kernel
theorem dX8_lastly_32 : decode cX8_lastly 32 = .ok (.ireturn, 1) := by decide +kernel
theorem dX8_lastly_33 : decode cX8_lastly 33 = .ok (.iinc 2 1, 3) := by decide +kernel
theorem dX8_lastly_36 : decode cX8_lastly 36 = .ok (.goto (-28), 3) := by decide +kernel
theorem dX8_lastly_39 : decode cX8_lastly 39 = .ok (.bipush (-2), 2) := by decide +kernel
theorem dX8_lastly_41 : decode cX8_lastly 41 = .ok (.ireturn, 1) := by decide +kernel
theorem dX8_can_0 : decode cX8_can 0 = .ok (.aload_n 0, 1) := by decide +kernel
theorem dX8_can_1 : decode cX8_can 1 = .ok (.iload_n 1, 1) := by decide +kernel
theorem dX8_can_2 : decode cX8_can 2 = .ok (.invokevirtual 163, 3) := by decide +kernel
theorem dX8_can_5 : decode cX8_can 5 = .ok (.ifCond .eq 18, 3) := by decide +kernel
theorem dX8_can_8 : decode cX8_can 8 = .ok (.aload_n 0, 1) := by decide +kernel
theorem dX8_can_9 : decode cX8_can 9 = .ok (.getfield 19, 3) := by decide +kernel
theorem dX8_can_12 : decode cX8_can 12 = .ok (.iload_n 1, 1) := by decide +kernel
theorem dX8_can_13 : decode cX8_can 13 = .ok (.iload_n 2, 1) := by decide +kernel
theorem dX8_can_14 : decode cX8_can 14 = .ok (.invokevirtual 172, 3) := by decide +kernel
theorem dX8_can_17 : decode cX8_can 17 = .ok (.invokestatic 159, 3) := by decide +kernel
theorem dX8_can_20 : decode cX8_can 20 = .ok (.goto 4, 3) := by decide +kernel
theorem dX8_can_23 : decode cX8_can 23 = .ok (.iconst (-1), 1) := by decide +kernel
theorem dX8_can_24 : decode cX8_can 24 = .ok (.ireturn, 1) := by decide +kernel
theorem dX8_freest_0 : decode cX8_freest 0 = .ok (.iconst 0, 1) := by decide +kernel
theorem dX8_freest_1 : decode cX8_freest 1 = .ok (.istore_n 1, 1) := by decide +kernel
theorem dX8_freest_2 : decode cX8_freest 2 = .ok (.iconst 1, 1) := by decide +kernel
theorem dX8_freest_3 : decode cX8_freest 3 = .ok (.istore_n 2, 1) := by decide +kernel
theorem dX8_freest_4 : decode cX8_freest 4 = .ok (.iload_n 2, 1) := by decide +kernel
theorem dX8_freest_5 : decode cX8_freest 5 = .ok (.aload_n 0, 1) := by decide +kernel
theorem dX8_freest_6 : decode cX8_freest 6 = .ok (.getfield 12, 3) := by decide +kernel
theorem dX8_freest_9 : decode cX8_freest 9 = .ok (.getfield 102, 3) := by decide +kernel
theorem dX8_freest_12 : decode cX8_freest 12 = .ok (.if_icmp .ge 30, 3) := by decide +kernel
theorem dX8_freest_15 : decode cX8_freest 15 = .ok (.aload_n 0, 1) := by decide +kernel
theorem dX8_freest_16 : decode cX8_freest 16 = .ok (.getfield 19, 3) := by decide +kernel
theorem dX8_freest_19 : decode cX8_freest 19 = .ok (.iload_n 2, 1) := by decide +kernel
theorem dX8_freest_20 : decode cX8_freest 20 = .ok (.invokevirtual 276, 3) := by decide +kernel
theorem dX8_freest_23 : decode cX8_freest 23 = .ok (.aload_n 0, 1) := by decide +kernel
theorem dX8_freest_24 : decode cX8_freest 24 = .ok (.getfield 19, 3) := by decide +kernel
theorem dX8_freest_27 : decode cX8_freest 27 = .ok (.iload_n 1, 1) := by decide +kernel
theorem dX8_freest_28 : decode cX8_freest 28 = .ok (.invokevirtual 276, 3) := by decide +kernel
theorem dX8_freest_31 : decode cX8_freest 31 = .ok (.if_icmp .le 5, 3) := by decide +kernel
theorem dX8_freest_34 : decode cX8_freest 34 = .ok (.iload_n 2, 1) := by decide +kernel
theorem dX8_freest_35 : decode cX8_freest 35 = .ok (.istore_n 1, 1) := by decide +kernel
theorem dX8_freest_36 : decode cX8_freest 36 = .ok (.iinc 2 1, 3) := by decide +kernel
theorem dX8_freest_39 : decode cX8_freest 39 = .ok (.goto (-35), 3) := by decide +kernel
theorem dX8_freest_42 : decode cX8_freest 42 = .ok (.iload_n 1, 1) := by decide +kernel
theorem dX8_freest_43 : decode cX8_freest 43 = .ok (.ireturn, 1) := by decide +kernel
theorem dX8_why_0 : decode cX8_why 0 = .ok (.aload_n 0, 1) := by decide +kernel
theorem dX8_why_1 : decode cX8_why 1 = .ok (.iload_n 1, 1) := by decide +kernel
theorem dX8_why_2 : decode cX8_why 2 = .ok (.iload_n 2, 1) := by decide +kernel
theorem dX8_why_3 : decode cX8_why 3 = .ok (.iload_n 3, 1) := by decide +kernel
theorem dX8_why_4 : decode cX8_why 4 = .ok (.iload 4, 2) := by decide +kernel
theorem dX8_why_6 : decode cX8_why 6 = .ok (.invokevirtual 116, 3) := by decide +kernel
theorem dX8_why_9 : decode cX8_why 9 = .ok (.ifCond .eq 14, 3) := by decide +kernel
theorem dX8_why_12 : decode cX8_why 12 = .ok (.iload 5, 2) := by decide +kernel
theorem dX8_why_14 : decode cX8_why 14 = .ok (.ifCond .lt 9, 3) := by decide +kernel
theorem dX8_why_17 : decode cX8_why 17 = .ok (.iload 5, 2) := by decide +kernel
theorem dX8_why_19 : decode cX8_why 19 = .ok (.iconst 2, 1) := by decide +kernel
theorem dX8_why_20 : decode cX8_why 20 = .ok (.if_icmp .le 5, 3) := by decide +kernel
theorem dX8_why_23 : decode cX8_why 23 = .ok (.iconst (-1), 1) := by decide +kernel
theorem dX8_why_24 : decode cX8_why 24 = .ok (.ireturn, 1) := by decide +kernel
theorem dX8_why_25 : decode cX8_why 25 = .ok (.aload_n 0, 1) := by decide +kernel
theorem dX8_why_26 : decode cX8_why 26 = .ok (.getfield 19, 3) := by decide +kernel
theorem dX8_why_29 : decode cX8_why 29 = .ok (.iload_n 1, 1) := by decide +kernel
theorem dX8_why_30 : decode cX8_why 30 = .ok (.iload_n 2, 1) := by decide +kernel
theorem dX8_why_31 : decode cX8_why 31 = .ok (.iload_n 3, 1) := by decide +kernel
theorem dX8_why_32 : decode cX8_why 32 = .ok (.iload 4, 2) := by decide +kernel
theorem dX8_why_34 : decode cX8_why 34 = .ok (.invokevirtual 120, 3) := by decide +kernel
theorem dX8_why_37 : decode cX8_why 37 = .ok (.istore 6, 2) := by decide +kernel
theorem dX8_why_39 : decode cX8_why 39 = .ok (.iload 6, 2) := by decide +kernel
theorem dX8_why_41 : decode cX8_why 41 = .ok (.ifCond .lt 15, 3) := by decide +kernel
theorem dX8_why_44 : decode cX8_why 44 = .ok (.iload 5, 2) := by decide +kernel
theorem dX8_why_46 : decode cX8_why 46 = .ok (.ifCond .ne 7, 3) := by decide +kernel
theorem dX8_why_49 : decode cX8_why 49 = .ok (.iconst 0, 1) := by decide +kernel
theorem dX8_why_50 : decode cX8_why 50 = .ok (.goto 5, 3) := by decide +kernel
theorem dX8_why_53 : decode cX8_why 53 = .ok (.bipush (-2), 2) := by decide +kernel
theorem dX8_why_55 : decode cX8_why 55 = .ok (.ireturn, 1) := by decide +kernel
theorem dX8_why_56 : decode cX8_why 56 = .ok (.iload 5, 2) := by decide +kernel
theorem dX8_why_58 : decode cX8_why 58 = .ok (.lookupswitch 51 #[(0, 26), (1, 47)], 26) := by decide +kernel
theorem dX8_why_84 : decode cX8_why 84 = .ok (.aload_n 0, 1) := by decide +kernel
theorem dX8_why_85 : decode cX8_why 85 = .ok (.getfield 19, 3) := by decide +kernel
theorem dX8_why_88 : decode cX8_why 88 = .ok (.iload_n 1, 1) := by decide +kernel
theorem dX8_why_89 : decode cX8_why 89 = .ok (.iload_n 2, 1) := by decide +kernel
theorem dX8_why_90 : decode cX8_why 90 = .ok (.iload_n 3, 1) := by decide +kernel
theorem dX8_why_91 : decode cX8_why 91 = .ok (.iload 4, 2) := by decide +kernel
theorem dX8_why_93 : decode cX8_why 93 = .ok (.invokevirtual 319, 3) := by decide +kernel
theorem dX8_why_96 : decode cX8_why 96 = .ok (.ifCond .eq 7, 3) := by decide +kernel
theorem dX8_why_99 : decode cX8_why 99 = .ok (.iconst 1, 1) := by decide +kernel
theorem dX8_why_100 : decode cX8_why 100 = .ok (.goto 4, 3) := by decide +kernel
theorem dX8_why_103 : decode cX8_why 103 = .ok (.iconst 2, 1) := by decide +kernel
theorem dX8_why_104 : decode cX8_why 104 = .ok (.ireturn, 1) := by decide +kernel
theorem dX8_why_105 : decode cX8_why 105 = .ok (.iload 6, 2) := by decide +kernel
theorem dX8_why_107 : decode cX8_why 107 = .ok (.ineg, 1) := by decide +kernel
theorem dX8_why_108 : decode cX8_why 108 = .ok (.ireturn, 1) := by decide +kernel
theorem dX8_why_109 : decode cX8_why 109 = .ok (.aload_n 0, 1) := by decide +kernel
theorem dX8_why_110 : decode cX8_why 110 = .ok (.iload_n 1, 1) := by decide +kernel
theorem dX8_why_111 : decode cX8_why 111 = .ok (.iload_n 2, 1) := by decide +kernel
theorem dX8_why_112 : decode cX8_why 112 = .ok (.iload_n 3, 1) := by decide +kernel
theorem dX8_why_113 : decode cX8_why 113 = .ok (.iconst 0, 1) := by decide +kernel
theorem dX8_why_114 : decode cX8_why 114 = .ok (.invokevirtual 322, 3) := by decide +kernel
theorem dX8_why_117 : decode cX8_why 117 = .ok (.ireturn, 1) := by decide +kernel
theorem dX8_ring_0 : decode cX8_ring 0 = .ok (.aload_n 0, 1) := by decide +kernel
theorem dX8_ring_1 : decode cX8_ring 1 = .ok (.iload_n 1, 1) := by decide +kernel
theorem dX8_ring_2 : decode cX8_ring 2 = .ok (.iload_n 2, 1) := by decide +kernel
theorem dX8_ring_3 : decode cX8_ring 3 = .ok (.iload_n 3, 1) := by decide +kernel
theorem dX8_ring_4 : decode cX8_ring 4 = .ok (.iload 4, 2) := by decide +kernel
theorem dX8_ring_6 : decode cX8_ring 6 = .ok (.invokevirtual 116, 3) := by decide +kernel
theorem dX8_ring_9 : decode cX8_ring 9 = .ok (.ifCond .eq 8, 3) := by decide +kernel
theorem dX8_ring_12 : decode cX8_ring 12 = .ok (.iload 5, 2) := by decide +kernel
theorem dX8_ring_14 : decode cX8_ring 14 = .ok (.ifCond .ge 5, 3) := by decide +kernel
theorem dX8_ring_17 : decode cX8_ring 17 = .ok (.iconst (-1), 1) := by decide +kernel
theorem dX8_ring_18 : decode cX8_ring 18 = .ok (.ireturn, 1) := by decide +kernel
theorem dX8_ring_19 : decode cX8_ring 19 = .ok (.aload_n 0, 1) := by decide +kernel
theorem dX8_ring_20 : decode cX8_ring 20 = .ok (.getfield 19, 3) := by decide +kernel
theorem dX8_ring_23 : decode cX8_ring 23 = .ok (.iload_n 1, 1) := by decide +kernel
theorem dX8_ring_24 : decode cX8_ring 24 = .ok (.iload_n 2, 1) := by decide +kernel
theorem dX8_ring_25 : decode cX8_ring 25 = .ok (.iload_n 3, 1) := by decide +kernel
theorem dX8_ring_26 : decode cX8_ring 26 = .ok (.iload 4, 2) := by decide +kernel
theorem dX8_ring_28 : decode cX8_ring 28 = .ok (.invokevirtual 120, 3) := by decide +kernel
theorem dX8_ring_31 : decode cX8_ring 31 = .ok (.ifCond .lt 6, 3) := by decide +kernel
theorem dX8_ring_34 : decode cX8_ring 34 = .ok (.bipush (-2), 2) := by decide +kernel
theorem dX8_ring_36 : decode cX8_ring 36 = .ok (.ireturn, 1) := by decide +kernel
theorem dX8_ring_37 : decode cX8_ring 37 = .ok (.aload_n 0, 1) := by decide +kernel
theorem dX8_ring_38 : decode cX8_ring 38 = .ok (.iload_n 1, 1) := by decide +kernel
theorem dX8_ring_39 : decode cX8_ring 39 = .ok (.iload_n 2, 1) := by decide +kernel
theorem dX8_ring_40 : decode cX8_ring 40 = .ok (.iload_n 3, 1) := by decide +kernel
theorem dX8_ring_41 : decode cX8_ring 41 = .ok (.iload 5, 2) := by decide +kernel
theorem dX8_ring_43 : decode cX8_ring 43 = .ok (.invokevirtual 322, 3) := by decide +kernel
theorem dX8_ring_46 : decode cX8_ring 46 = .ok (.ireturn, 1) := by decide +kernel
theorem dX8_culprit_0 : decode cX8_culprit 0 = .ok (.aload_n 0, 1) := by decide +kernel
theorem dX8_culprit_1 : decode cX8_culprit 1 = .ok (.iload_n 1, 1) := by decide +kernel
theorem dX8_culprit_2 : decode cX8_culprit 2 = .ok (.iload_n 2, 1) := by decide +kernel
theorem dX8_culprit_3 : decode cX8_culprit 3 = .ok (.iload_n 3, 1) := by decide +kernel
theorem dX8_culprit_4 : decode cX8_culprit 4 = .ok (.iload 4, 2) := by decide +kernel
theorem dX8_culprit_6 : decode cX8_culprit 6 = .ok (.invokevirtual 116, 3) := by decide +kernel
theorem dX8_culprit_9 : decode cX8_culprit 9 = .ok (.ifCond .ne 5, 3) := by decide +kernel
theorem dX8_culprit_12 : decode cX8_culprit 12 = .ok (.iconst (-1), 1) := by decide +kernel
theorem dX8_culprit_13 : decode cX8_culprit 13 = .ok (.ireturn, 1) := by decide +kernel
theorem dX8_culprit_14 : decode cX8_culprit 14 = .ok (.aload_n 0, 1) := by decide +kernel
theorem dX8_culprit_15 : decode cX8_culprit 15 = .ok (.getfield 19, 3) := by decide +kernel
theorem dX8_culprit_18 : decode cX8_culprit 18 = .ok (.iload_n 1, 1) := by decide +kernel
theorem dX8_culprit_19 : decode cX8_culprit 19 = .ok (.iload_n 2, 1) := by decide +kernel
theorem dX8_culprit_20 : decode cX8_culprit 20 = .ok (.iload_n 3, 1) := by decide +kernel
theorem dX8_culprit_21 : decode cX8_culprit 21 = .ok (.iload 4, 2) := by decide +kernel
theorem dX8_culprit_23 : decode cX8_culprit 23 = .ok (.invokevirtual 120, 3) := by decide +kernel
theorem dX8_culprit_26 : decode cX8_culprit 26 = .ok (.ifCond .lt 6, 3) := by decide +kernel
theorem dX8_culprit_29 : decode cX8_culprit 29 = .ok (.bipush (-2), 2) := by decide +kernel
theorem dX8_culprit_31 : decode cX8_culprit 31 = .ok (.ireturn, 1) := by decide +kernel
theorem dX8_culprit_32 : decode cX8_culprit 32 = .ok (.iconst 0, 1) := by decide +kernel
theorem dX8_culprit_33 : decode cX8_culprit 33 = .ok (.istore 5, 2) := by decide +kernel
theorem dX8_culprit_35 : decode cX8_culprit 35 = .ok (.iload 5, 2) := by decide +kernel
theorem dX8_culprit_37 : decode cX8_culprit 37 = .ok (.aload_n 0, 1) := by decide +kernel
theorem dX8_culprit_38 : decode cX8_culprit 38 = .ok (.getfield 12, 3) := by decide +kernel
theorem dX8_culprit_41 : decode cX8_culprit 41 = .ok (.getfield 96, 3) := by decide +kernel
theorem dX8_culprit_44 : decode cX8_culprit 44 = .ok (.if_icmp .ge 46, 3) := by decide +kernel
theorem dX8_culprit_47 : decode cX8_culprit 47 = .ok (.aload_n 0, 1) := by decide +kernel
theorem dX8_culprit_48 : decode cX8_culprit 48 = .ok (.getfield 12, 3) := by decide +kernel
theorem dX8_culprit_51 : decode cX8_culprit 51 = .ok (.getfield 151, 3) := by decide +kernel
theorem dX8_culprit_54 : decode cX8_culprit 54 = .ok (.iload 5, 2) := by decide +kernel
theorem dX8_culprit_56 : decode cX8_culprit 56 = .ok (.baload, 1) := by decide +kernel
theorem dX8_culprit_57 : decode cX8_culprit 57 = .ok (.ifCond .eq 27, 3) := by decide +kernel
theorem dX8_culprit_60 : decode cX8_culprit 60 = .ok (.aload_n 0, 1) := by decide +kernel
theorem dX8_culprit_61 : decode cX8_culprit 61 = .ok (.iload 5, 2) := by decide +kernel
theorem dX8_culprit_63 : decode cX8_culprit 63 = .ok (.invokevirtual 201, 3) := by decide +kernel
theorem dX8_culprit_66 : decode cX8_culprit 66 = .ok (.aload_n 0, 1) := by decide +kernel
theorem dX8_culprit_67 : decode cX8_culprit 67 = .ok (.getfield 23, 3) := by decide +kernel
theorem dX8_culprit_70 : decode cX8_culprit 70 = .ok (.iload_n 1, 1) := by decide +kernel
theorem dX8_culprit_71 : decode cX8_culprit 71 = .ok (.iload_n 2, 1) := by decide +kernel
theorem dX8_culprit_72 : decode cX8_culprit 72 = .ok (.iload_n 3, 1) := by decide +kernel
theorem dX8_culprit_73 : decode cX8_culprit 73 = .ok (.iload 4, 2) := by decide +kernel
theorem dX8_culprit_75 : decode cX8_culprit 75 = .ok (.invokevirtual 120, 3) := by decide +kernel
theorem dX8_culprit_78 : decode cX8_culprit 78 = .ok (.ifCond .lt 6, 3) := by decide +kernel
theorem dX8_culprit_81 : decode cX8_culprit 81 = .ok (.iload 5, 2) := by decide +kernel
theorem dX8_culprit_83 : decode cX8_culprit 83 = .ok (.ireturn, 1) := by decide +kernel
theorem dX8_culprit_84 : decode cX8_culprit 84 = .ok (.iinc 5 1, 3) := by decide +kernel
theorem dX8_culprit_87 : decode cX8_culprit 87 = .ok (.goto (-52), 3) := by decide +kernel
theorem dX8_culprit_90 : decode cX8_culprit 90 = .ok (.bipush (-2), 2) := by decide +kernel
theorem dX8_culprit_92 : decode cX8_culprit 92 = .ok (.ireturn, 1) := by decide +kernel
theorem dX8_tightest_0 : decode cX8_tightest 0 = .ok (.aload_n 0, 1) := by decide +kernel
theorem dX8_tightest_1 : decode cX8_tightest 1 = .ok (.iload_n 1, 1) := by decide +kernel
theorem dX8_tightest_2 : decode cX8_tightest 2 = .ok (.iload_n 2, 1) := by decide +kernel
theorem dX8_tightest_3 : decode cX8_tightest 3 = .ok (.invokevirtual 286, 3) := by decide +kernel
theorem dX8_tightest_6 : decode cX8_tightest 6 = .ok (.ifCond .eq 10, 3) := by decide +kernel
theorem dX8_tightest_9 : decode cX8_tightest 9 = .ok (.iload_n 3, 1) := by decide +kernel
theorem dX8_tightest_10 : decode cX8_tightest 10 = .ok (.invokestatic 325, 3) := by decide +kernel
theorem dX8_tightest_13 : decode cX8_tightest 13 = .ok (.ifCond .ne 5, 3) := by decide +kernel
theorem dX8_tightest_16 : decode cX8_tightest 16 = .ok (.iconst (-1), 1) := by decide +kernel
theorem dX8_tightest_17 : decode cX8_tightest 17 = .ok (.ireturn, 1) := by decide +kernel
theorem dX8_tightest_18 : decode cX8_tightest 18 = .ok (.aload_n 0, 1) := by decide +kernel
theorem dX8_tightest_19 : decode cX8_tightest 19 = .ok (.iload_n 1, 1) := by decide +kernel
theorem dX8_tightest_20 : decode cX8_tightest 20 = .ok (.iload_n 2, 1) := by decide +kernel
theorem dX8_tightest_21 : decode cX8_tightest 21 = .ok (.iload_n 3, 1) := by decide +kernel
theorem dX8_tightest_22 : decode cX8_tightest 22 = .ok (.invokevirtual 328, 3) := by decide +kernel
theorem dX8_tightest_25 : decode cX8_tightest 25 = .ok (.ireturn, 1) := by decide +kernel
theorem dX8_spare_0 : decode cX8_spare 0 = .ok (.aload_n 0, 1) := by decide +kernel
theorem dX8_spare_1 : decode cX8_spare 1 = .ok (.iload_n 1, 1) := by decide +kernel
theorem dX8_spare_2 : decode cX8_spare 2 = .ok (.invokevirtual 137, 3) := by decide +kernel
theorem dX8_spare_5 : decode cX8_spare 5 = .ok (.ifCond .ne 5, 3) := by decide +kernel
theorem dX8_spare_8 : decode cX8_spare 8 = .ok (.iconst (-1), 1) := by decide +kernel
theorem dX8_spare_9 : decode cX8_spare 9 = .ok (.ireturn, 1) := by decide +kernel
theorem dX8_spare_10 : decode cX8_spare 10 = .ok (.aload_n 0, 1) := by decide +kernel
theorem dX8_spare_11 : decode cX8_spare 11 = .ok (.getfield 12, 3) := by decide +kernel
theorem dX8_spare_14 : decode cX8_spare 14 = .ok (.getfield 151, 3) := by decide +kernel
theorem dX8_spare_17 : decode cX8_spare 17 = .ok (.iload_n 1, 1) := by decide +kernel
theorem dX8_spare_18 : decode cX8_spare 18 = .ok (.baload, 1) := by decide +kernel
theorem dX8_spare_19 : decode cX8_spare 19 = .ok (.ifCond .ne 6, 3) := by decide +kernel
theorem dX8_spare_22 : decode cX8_spare 22 = .ok (.bipush (-3), 2) := by decide +kernel
theorem dX8_spare_24 : decode cX8_spare 24 = .ok (.ireturn, 1) := by decide +kernel
theorem dX8_spare_25 : decode cX8_spare 25 = .ok (.aload_n 0, 1) := by decide +kernel
theorem dX8_spare_26 : decode cX8_spare 26 = .ok (.aload_n 0, 1) := by decide +kernel
theorem dX8_spare_27 : decode cX8_spare 27 = .ok (.getfield 12, 3) := by decide +kernel
theorem dX8_spare_30 : decode cX8_spare 30 = .ok (.getfield 195, 3) := by decide +kernel
theorem dX8_spare_33 : decode cX8_spare 33 = .ok (.iload_n 1, 1) := by decide +kernel
theorem dX8_spare_34 : decode cX8_spare 34 = .ok (.iaload, 1) := by decide +kernel
theorem dX8_spare_35 : decode cX8_spare 35 = .ok (.aload_n 0, 1) := by decide +kernel
theorem dX8_spare_36 : decode cX8_spare 36 = .ok (.getfield 12, 3) := by decide +kernel
theorem dX8_spare_39 : decode cX8_spare 39 = .ok (.getfield 198, 3) := by decide +kernel
theorem dX8_spare_42 : decode cX8_spare 42 = .ok (.iload_n 1, 1) := by decide +kernel
theorem dX8_spare_43 : decode cX8_spare 43 = .ok (.iaload, 1) := by decide +kernel
theorem dX8_spare_44 : decode cX8_spare 44 = .ok (.aload_n 0, 1) := by decide +kernel
theorem dX8_spare_45 : decode cX8_spare 45 = .ok (.getfield 12, 3) := by decide +kernel
theorem dX8_spare_48 : decode cX8_spare 48 = .ok (.getfield 204, 3) := by decide +kernel
theorem dX8_spare_51 : decode cX8_spare 51 = .ok (.iload_n 1, 1) := by decide +kernel
theorem dX8_spare_52 : decode cX8_spare 52 = .ok (.iaload, 1) := by decide +kernel
theorem dX8_spare_53 : decode cX8_spare 53 = .ok (.invokevirtual 328, 3) := by decide +kernel
theorem dX8_spare_56 : decode cX8_spare 56 = .ok (.istore_n 2, 1) := by decide +kernel
theorem dX8_spare_57 : decode cX8_spare 57 = .ok (.aload_n 0, 1) := by decide +kernel
theorem dX8_spare_58 : decode cX8_spare 58 = .ok (.getfield 12, 3) := by decide +kernel
theorem dX8_spare_61 : decode cX8_spare 61 = .ok (.getfield 141, 3) := by decide +kernel
theorem dX8_spare_64 : decode cX8_spare 64 = .ok (.iload_n 1, 1) := by decide +kernel
theorem dX8_spare_65 : decode cX8_spare 65 = .ok (.iaload, 1) := by decide +kernel
theorem dX8_spare_66 : decode cX8_spare 66 = .ok (.iload_n 2, 1) := by decide +kernel
theorem dX8_spare_67 : decode cX8_spare 67 = .ok (.isub, 1) := by decide +kernel
theorem dX8_spare_68 : decode cX8_spare 68 = .ok (.invokestatic 331, 3) := by decide +kernel
theorem dX8_spare_71 : decode cX8_spare 71 = .ok (.ireturn, 1) := by decide +kernel
theorem dX8_needless_0 : decode cX8_needless 0 = .ok (.aload_n 0, 1) := by decide +kernel
theorem dX8_needless_1 : decode cX8_needless 1 = .ok (.iconst 0, 1) := by decide +kernel
theorem dX8_needless_2 : decode cX8_needless 2 = .ok (.invokevirtual 217, 3) := by decide +kernel
theorem dX8_needless_5 : decode cX8_needless 5 = .ok (.ireturn, 1) := by decide +kernel
theorem dX8_needs_0 : decode cX8_needs 0 = .ok (.aload_n 0, 1) := by decide +kernel
theorem dX8_needs_1 : decode cX8_needs 1 = .ok (.iload_n 1, 1) := by decide +kernel
theorem dX8_needs_2 : decode cX8_needs 2 = .ok (.invokevirtual 163, 3) := by decide +kernel
theorem dX8_needs_5 : decode cX8_needs 5 = .ok (.ifCond .ne 5, 3) := by decide +kernel
theorem dX8_needs_8 : decode cX8_needs 8 = .ok (.iconst (-1), 1) := by decide +kernel
theorem dX8_needs_9 : decode cX8_needs 9 = .ok (.ireturn, 1) := by decide +kernel
theorem dX8_needs_10 : decode cX8_needs 10 = .ok (.iconst 0, 1) := by decide +kernel
theorem dX8_needs_11 : decode cX8_needs 11 = .ok (.istore_n 2, 1) := by decide +kernel
theorem dX8_needs_12 : decode cX8_needs 12 = .ok (.iconst 0, 1) := by decide +kernel
theorem dX8_needs_13 : decode cX8_needs 13 = .ok (.istore_n 3, 1) := by decide +kernel
theorem dX8_needs_14 : decode cX8_needs 14 = .ok (.iload_n 3, 1) := by decide +kernel
theorem dX8_needs_15 : decode cX8_needs 15 = .ok (.aload_n 0, 1) := by decide +kernel
theorem dX8_needs_16 : decode cX8_needs 16 = .ok (.getfield 12, 3) := by decide +kernel
theorem dX8_needs_19 : decode cX8_needs 19 = .ok (.getfield 96, 3) := by decide +kernel
theorem dX8_needs_22 : decode cX8_needs 22 = .ok (.if_icmp .ge 40, 3) := by decide +kernel
theorem dX8_needs_25 : decode cX8_needs 25 = .ok (.iload_n 2, 1) := by decide +kernel
theorem dX8_needs_26 : decode cX8_needs 26 = .ok (.aload_n 0, 1) := by decide +kernel
theorem dX8_needs_27 : decode cX8_needs 27 = .ok (.getfield 12, 3) := by decide +kernel
theorem dX8_needs_30 : decode cX8_needs 30 = .ok (.iload_n 3, 1) := by decide +kernel
theorem dX8_needs_31 : decode cX8_needs 31 = .ok (.iload_n 1, 1) := by decide +kernel
theorem dX8_needs_32 : decode cX8_needs 32 = .ok (.invokevirtual 336, 3) := by decide +kernel
theorem dX8_needs_35 : decode cX8_needs 35 = .ok (.ifCond .eq 15, 3) := by decide +kernel
theorem dX8_needs_38 : decode cX8_needs 38 = .ok (.aload_n 0, 1) := by decide +kernel
theorem dX8_needs_39 : decode cX8_needs 39 = .ok (.iload_n 3, 1) := by decide +kernel
theorem dX8_needs_40 : decode cX8_needs 40 = .ok (.invokevirtual 264, 3) := by decide +kernel
theorem dX8_needs_43 : decode cX8_needs 43 = .ok (.ifCond .eq 7, 3) := by decide +kernel
theorem dX8_needs_46 : decode cX8_needs 46 = .ok (.iconst 1, 1) := by decide +kernel
theorem dX8_needs_47 : decode cX8_needs 47 = .ok (.goto 4, 3) := by decide +kernel
theorem dX8_needs_50 : decode cX8_needs 50 = .ok (.iconst 0, 1) := by decide +kernel
theorem dX8_needs_51 : decode cX8_needs 51 = .ok (.invokestatic 159, 3) := by decide +kernel
theorem dX8_needs_54 : decode cX8_needs 54 = .ok (.iadd, 1) := by decide +kernel
theorem dX8_needs_55 : decode cX8_needs 55 = .ok (.istore_n 2, 1) := by decide +kernel
theorem dX8_needs_56 : decode cX8_needs 56 = .ok (.iinc 3 1, 3) := by decide +kernel
theorem dX8_needs_59 : decode cX8_needs 59 = .ok (.goto (-45), 3) := by decide +kernel
theorem dX8_needs_62 : decode cX8_needs 62 = .ok (.iload_n 2, 1) := by decide +kernel
theorem dX8_needs_63 : decode cX8_needs 63 = .ok (.ireturn, 1) := by decide +kernel
theorem dX8_ifTold_0 : decode cX8_ifTold 0 = .ok (.aload_n 0, 1) := by decide +kernel
theorem dX8_ifTold_1 : decode cX8_ifTold 1 = .ok (.iload_n 1, 1) := by decide +kernel
theorem dX8_ifTold_2 : decode cX8_ifTold 2 = .ok (.iload_n 2, 1) := by decide +kernel
theorem dX8_ifTold_3 : decode cX8_ifTold 3 = .ok (.iload_n 3, 1) := by decide +kernel
theorem dX8_ifTold_4 : decode cX8_ifTold 4 = .ok (.iload 4, 2) := by decide +kernel
theorem dX8_ifTold_6 : decode cX8_ifTold 6 = .ok (.invokevirtual 116, 3) := by decide +kernel
theorem dX8_ifTold_9 : decode cX8_ifTold 9 = .ok (.ifCond .eq 11, 3) := by decide +kernel
theorem dX8_ifTold_12 : decode cX8_ifTold 12 = .ok (.iload 5, 2) := by decide +kernel
theorem dX8_ifTold_14 : decode cX8_ifTold 14 = .ok (.invokestatic 339, 3) := by decide +kernel
theorem dX8_ifTold_17 : decode cX8_ifTold 17 = .ok (.ifCond .ne 5, 3) := by decide +kernel
theorem dX8_ifTold_20 : decode cX8_ifTold 20 = .ok (.iconst (-1), 1) := by decide +kernel
theorem dX8_ifTold_21 : decode cX8_ifTold 21 = .ok (.ireturn, 1) := by decide +kernel
theorem dX8_ifTold_22 : decode cX8_ifTold 22 = .ok (.aload_n 0, 1) := by decide +kernel
theorem dX8_ifTold_23 : decode cX8_ifTold 23 = .ok (.getfield 19, 3) := by decide +kernel
theorem dX8_ifTold_26 : decode cX8_ifTold 26 = .ok (.iload_n 1, 1) := by decide +kernel
theorem dX8_ifTold_27 : decode cX8_ifTold 27 = .ok (.iload_n 2, 1) := by decide +kernel
theorem dX8_ifTold_28 : decode cX8_ifTold 28 = .ok (.iload_n 3, 1) := by decide +kernel
theorem dX8_ifTold_29 : decode cX8_ifTold 29 = .ok (.iload 4, 2) := by decide +kernel
theorem dX8_ifTold_31 : decode cX8_ifTold 31 = .ok (.invokevirtual 120, 3) := by decide +kernel
theorem dX8_ifTold_34 : decode cX8_ifTold 34 = .ok (.ifCond .ge 6, 3) := by decide +kernel
theorem dX8_ifTold_37 : decode cX8_ifTold 37 = .ok (.bipush (-5), 2) := by decide +kernel
theorem dX8_ifTold_39 : decode cX8_ifTold 39 = .ok (.ireturn, 1) := by decide +kernel
theorem dX8_ifTold_40 : decode cX8_ifTold 40 = .ok (.aload_n 0, 1) := by decide +kernel
theorem dX8_ifTold_41 : decode cX8_ifTold 41 = .ok (.getfield 23, 3) := by decide +kernel
theorem dX8_ifTold_44 : decode cX8_ifTold 44 = .ok (.aload_n 0, 1) := by decide +kernel
theorem dX8_ifTold_45 : decode cX8_ifTold 45 = .ok (.getfield 19, 3) := by decide +kernel
theorem dX8_ifTold_48 : decode cX8_ifTold 48 = .ok (.invokevirtual 308, 3) := by decide +kernel
theorem dX8_ifTold_51 : decode cX8_ifTold 51 = .ok (.aload_n 0, 1) := by decide +kernel
theorem dX8_ifTold_52 : decode cX8_ifTold 52 = .ok (.getfield 23, 3) := by decide +kernel
theorem dX8_ifTold_55 : decode cX8_ifTold 55 = .ok (.iload_n 1, 1) := by decide +kernel
theorem dX8_ifTold_56 : decode cX8_ifTold 56 = .ok (.iload_n 2, 1) := by decide +kernel
theorem dX8_ifTold_57 : decode cX8_ifTold 57 = .ok (.iload_n 3, 1) := by decide +kernel
theorem dX8_ifTold_58 : decode cX8_ifTold 58 = .ok (.iload 4, 2) := by decide +kernel
theorem dX8_ifTold_60 : decode cX8_ifTold 60 = .ok (.invokevirtual 342, 3) := by decide +kernel
theorem dX8_ifTold_63 : decode cX8_ifTold 63 = .ok (.aload_n 0, 1) := by decide +kernel
theorem dX8_ifTold_64 : decode cX8_ifTold 64 = .ok (.iload 5, 2) := by decide +kernel
theorem dX8_ifTold_66 : decode cX8_ifTold 66 = .ok (.invokevirtual 346, 3) := by decide +kernel
theorem dX8_ifTold_69 : decode cX8_ifTold 69 = .ok (.ireturn, 1) := by decide +kernel
theorem dX8_ifDropped_0 : decode cX8_ifDropped 0 = .ok (.aload_n 0, 1) := by decide +kernel
theorem dX8_ifDropped_1 : decode cX8_ifDropped 1 = .ok (.iload_n 1, 1) := by decide +kernel
theorem dX8_ifDropped_2 : decode cX8_ifDropped 2 = .ok (.invokevirtual 137, 3) := by decide +kernel
theorem dX8_ifDropped_5 : decode cX8_ifDropped 5 = .ok (.ifCond .eq 10, 3) := by decide +kernel
theorem dX8_ifDropped_8 : decode cX8_ifDropped 8 = .ok (.iload_n 2, 1) := by decide +kernel
theorem dX8_ifDropped_9 : decode cX8_ifDropped 9 = .ok (.invokestatic 339, 3) := by decide +kernel
theorem dX8_ifDropped_12 : decode cX8_ifDropped 12 = .ok (.ifCond .ne 5, 3) := by decide +kernel
theorem dX8_ifDropped_15 : decode cX8_ifDropped 15 = .ok (.iconst (-1), 1) := by decide +kernel
theorem dX8_ifDropped_16 : decode cX8_ifDropped 16 = .ok (.ireturn, 1) := by decide +kernel
theorem dX8_ifDropped_17 : decode cX8_ifDropped 17 = .ok (.aload_n 0, 1) := by decide +kernel
theorem dX8_ifDropped_18 : decode cX8_ifDropped 18 = .ok (.iload_n 1, 1) := by decide +kernel
theorem dX8_ifDropped_19 : decode cX8_ifDropped 19 = .ok (.invokevirtual 201, 3) := by decide +kernel
theorem dX8_ifDropped_22 : decode cX8_ifDropped 22 = .ok (.aload_n 0, 1) := by decide +kernel
theorem dX8_ifDropped_23 : decode cX8_ifDropped 23 = .ok (.iload_n 2, 1) := by decide +kernel
theorem dX8_ifDropped_24 : decode cX8_ifDropped 24 = .ok (.invokevirtual 346, 3) := by decide +kernel
theorem dX8_ifDropped_27 : decode cX8_ifDropped 27 = .ok (.ireturn, 1) := by decide +kernel
theorem dX8_ifTurned_0 : decode cX8_ifTurned 0 = .ok (.aload_n 0, 1) := by decide +kernel
theorem dX8_ifTurned_1 : decode cX8_ifTurned 1 = .ok (.iload_n 1, 1) := by decide +kernel
theorem dX8_ifTurned_2 : decode cX8_ifTurned 2 = .ok (.invokevirtual 137, 3) := by decide +kernel
theorem dX8_ifTurned_5 : decode cX8_ifTurned 5 = .ok (.ifCond .eq 10, 3) := by decide +kernel
theorem dX8_ifTurned_8 : decode cX8_ifTurned 8 = .ok (.iload_n 2, 1) := by decide +kernel
theorem dX8_ifTurned_9 : decode cX8_ifTurned 9 = .ok (.invokestatic 339, 3) := by decide +kernel
theorem dX8_ifTurned_12 : decode cX8_ifTurned 12 = .ok (.ifCond .ne 5, 3) := by decide +kernel
theorem dX8_ifTurned_15 : decode cX8_ifTurned 15 = .ok (.iconst (-1), 1) := by decide +kernel
theorem dX8_ifTurned_16 : decode cX8_ifTurned 16 = .ok (.ireturn, 1) := by decide +kernel
theorem dX8_ifTurned_17 : decode cX8_ifTurned 17 = .ok (.aload_n 0, 1) := by decide +kernel
theorem dX8_ifTurned_18 : decode cX8_ifTurned 18 = .ok (.getfield 12, 3) := by decide +kernel
theorem dX8_ifTurned_21 : decode cX8_ifTurned 21 = .ok (.getfield 151, 3) := by decide +kernel
theorem dX8_ifTurned_24 : decode cX8_ifTurned 24 = .ok (.iload_n 1, 1) := by decide +kernel
theorem dX8_ifTurned_25 : decode cX8_ifTurned 25 = .ok (.baload, 1) := by decide +kernel
theorem dX8_ifTurned_26 : decode cX8_ifTurned 26 = .ok (.ifCond .eq 14, 3) := by decide +kernel
theorem dX8_ifTurned_29 : decode cX8_ifTurned 29 = .ok (.aload_n 0, 1) := by decide +kernel
theorem dX8_ifTurned_30 : decode cX8_ifTurned 30 = .ok (.iload_n 1, 1) := by decide +kernel
theorem dX8_ifTurned_31 : decode cX8_ifTurned 31 = .ok (.invokevirtual 201, 3) := by decide +kernel
theorem dX8_ifTurned_34 : decode cX8_ifTurned 34 = .ok (.aload_n 0, 1) := by decide +kernel
theorem dX8_ifTurned_35 : decode cX8_ifTurned 35 = .ok (.iload_n 2, 1) := by decide +kernel
theorem dX8_ifTurned_36 : decode cX8_ifTurned 36 = .ok (.invokevirtual 346, 3) := by decide +kernel
theorem dX8_ifTurned_39 : decode cX8_ifTurned 39 = .ok (.ireturn, 1) := by decide +kernel
theorem dX8_ifTurned_40 : decode cX8_ifTurned 40 = .ok (.aload_n 0, 1) := by decide +kernel
theorem dX8_ifTurned_41 : decode cX8_ifTurned 41 = .ok (.aload_n 0, 1) := by decide +kernel
theorem dX8_ifTurned_42 : decode cX8_ifTurned 42 = .ok (.getfield 12, 3) := by decide +kernel
theorem dX8_ifTurned_45 : decode cX8_ifTurned 45 = .ok (.getfield 195, 3) := by decide +kernel
theorem dX8_ifTurned_48 : decode cX8_ifTurned 48 = .ok (.iload_n 1, 1) := by decide +kernel
theorem dX8_ifTurned_49 : decode cX8_ifTurned 49 = .ok (.iaload, 1) := by decide +kernel
theorem dX8_ifTurned_50 : decode cX8_ifTurned 50 = .ok (.aload_n 0, 1) := by decide +kernel
theorem dX8_ifTurned_51 : decode cX8_ifTurned 51 = .ok (.getfield 12, 3) := by decide +kernel
theorem dX8_ifTurned_54 : decode cX8_ifTurned 54 = .ok (.getfield 198, 3) := by decide +kernel
theorem dX8_ifTurned_57 : decode cX8_ifTurned 57 = .ok (.iload_n 1, 1) := by decide +kernel
theorem dX8_ifTurned_58 : decode cX8_ifTurned 58 = .ok (.iaload, 1) := by decide +kernel
theorem dX8_ifTurned_59 : decode cX8_ifTurned 59 = .ok (.aload_n 0, 1) := by decide +kernel
theorem dX8_ifTurned_60 : decode cX8_ifTurned 60 = .ok (.getfield 12, 3) := by decide +kernel
theorem dX8_ifTurned_63 : decode cX8_ifTurned 63 = .ok (.getfield 204, 3) := by decide +kernel
theorem dX8_ifTurned_66 : decode cX8_ifTurned 66 = .ok (.iload_n 1, 1) := by decide +kernel
theorem dX8_ifTurned_67 : decode cX8_ifTurned 67 = .ok (.iaload, 1) := by decide +kernel
theorem dX8_ifTurned_68 : decode cX8_ifTurned 68 = .ok (.aload_n 0, 1) := by decide +kernel
theorem dX8_ifTurned_69 : decode cX8_ifTurned 69 = .ok (.getfield 12, 3) := by decide +kernel
theorem dX8_ifTurned_72 : decode cX8_ifTurned 72 = .ok (.getfield 141, 3) := by decide +kernel
theorem dX8_ifTurned_75 : decode cX8_ifTurned 75 = .ok (.iload_n 1, 1) := by decide +kernel
theorem dX8_ifTurned_76 : decode cX8_ifTurned 76 = .ok (.iaload, 1) := by decide +kernel
theorem dX8_ifTurned_77 : decode cX8_ifTurned 77 = .ok (.iload_n 2, 1) := by decide +kernel
theorem dX8_ifTurned_78 : decode cX8_ifTurned 78 = .ok (.invokevirtual 349, 3) := by decide +kernel
theorem dX8_ifTurned_81 : decode cX8_ifTurned 81 = .ok (.ireturn, 1) := by decide +kernel
theorem dX8_ifPinned_0 : decode cX8_ifPinned 0 = .ok (.aload_n 0, 1) := by decide +kernel
theorem dX8_ifPinned_1 : decode cX8_ifPinned 1 = .ok (.iload_n 1, 1) := by decide +kernel
theorem dX8_ifPinned_2 : decode cX8_ifPinned 2 = .ok (.invokevirtual 163, 3) := by decide +kernel
theorem dX8_ifPinned_5 : decode cX8_ifPinned 5 = .ok (.ifCond .eq 18, 3) := by decide +kernel
theorem dX8_ifPinned_8 : decode cX8_ifPinned 8 = .ok (.aload_n 0, 1) := by decide +kernel
theorem dX8_ifPinned_9 : decode cX8_ifPinned 9 = .ok (.iload_n 2, 1) := by decide +kernel
theorem dX8_ifPinned_10 : decode cX8_ifPinned 10 = .ok (.invokevirtual 166, 3) := by decide +kernel
theorem dX8_ifPinned_13 : decode cX8_ifPinned 13 = .ok (.ifCond .eq 10, 3) := by decide +kernel
theorem dX8_ifPinned_16 : decode cX8_ifPinned 16 = .ok (.iload_n 3, 1) := by decide +kernel
theorem dX8_ifPinned_17 : decode cX8_ifPinned 17 = .ok (.invokestatic 339, 3) := by decide +kernel
theorem dX8_ifPinned_20 : decode cX8_ifPinned 20 = .ok (.ifCond .ne 5, 3) := by decide +kernel
theorem dX8_ifPinned_23 : decode cX8_ifPinned 23 = .ok (.iconst (-1), 1) := by decide +kernel
theorem dX8_ifPinned_24 : decode cX8_ifPinned 24 = .ok (.ireturn, 1) := by decide +kernel
theorem dX8_ifPinned_25 : decode cX8_ifPinned 25 = .ok (.aload_n 0, 1) := by decide +kernel
theorem dX8_ifPinned_26 : decode cX8_ifPinned 26 = .ok (.iload_n 1, 1) := by decide +kernel
theorem dX8_ifPinned_27 : decode cX8_ifPinned 27 = .ok (.invokevirtual 169, 3) := by decide +kernel
theorem dX8_ifPinned_30 : decode cX8_ifPinned 30 = .ok (.ifCond .ne 6, 3) := by decide +kernel
theorem dX8_ifPinned_33 : decode cX8_ifPinned 33 = .ok (.bipush (-3), 2) := by decide +kernel
theorem dX8_ifPinned_35 : decode cX8_ifPinned 35 = .ok (.ireturn, 1) := by decide +kernel
theorem dX8_ifPinned_36 : decode cX8_ifPinned 36 = .ok (.aload_n 0, 1) := by decide +kernel
theorem dX8_ifPinned_37 : decode cX8_ifPinned 37 = .ok (.getfield 19, 3) := by decide +kernel
theorem dX8_ifPinned_40 : decode cX8_ifPinned 40 = .ok (.iload_n 1, 1) := by decide +kernel
theorem dX8_ifPinned_41 : decode cX8_ifPinned 41 = .ok (.iload_n 2, 1) := by decide +kernel
theorem dX8_ifPinned_42 : decode cX8_ifPinned 42 = .ok (.invokevirtual 172, 3) := by decide +kernel
theorem dX8_ifPinned_45 : decode cX8_ifPinned 45 = .ok (.ifCond .ne 6, 3) := by decide +kernel
theorem dX8_ifPinned_48 : decode cX8_ifPinned 48 = .ok (.bipush (-5), 2) := by decide +kernel
theorem dX8_ifPinned_50 : decode cX8_ifPinned 50 = .ok (.ireturn, 1) := by decide +kernel
theorem dX8_ifPinned_51 : decode cX8_ifPinned 51 = .ok (.aload_n 0, 1) := by decide +kernel
theorem dX8_ifPinned_52 : decode cX8_ifPinned 52 = .ok (.getfield 23, 3) := by decide +kernel
theorem dX8_ifPinned_55 : decode cX8_ifPinned 55 = .ok (.aload_n 0, 1) := by decide +kernel
theorem dX8_ifPinned_56 : decode cX8_ifPinned 56 = .ok (.getfield 19, 3) := by decide +kernel
theorem dX8_ifPinned_59 : decode cX8_ifPinned 59 = .ok (.invokevirtual 308, 3) := by decide +kernel
theorem dX8_ifPinned_62 : decode cX8_ifPinned 62 = .ok (.aload_n 0, 1) := by decide +kernel
theorem dX8_ifPinned_63 : decode cX8_ifPinned 63 = .ok (.getfield 23, 3) := by decide +kernel
theorem dX8_ifPinned_66 : decode cX8_ifPinned 66 = .ok (.iload_n 1, 1) := by decide +kernel
theorem dX8_ifPinned_67 : decode cX8_ifPinned 67 = .ok (.iload_n 2, 1) := by decide +kernel
theorem dX8_ifPinned_68 : decode cX8_ifPinned 68 = .ok (.invokevirtual 312, 3) := by decide +kernel
theorem dX8_ifPinned_71 : decode cX8_ifPinned 71 = .ok (.aload_n 0, 1) := by decide +kernel
theorem dX8_ifPinned_72 : decode cX8_ifPinned 72 = .ok (.iload_n 3, 1) := by decide +kernel
theorem dX8_ifPinned_73 : decode cX8_ifPinned 73 = .ok (.invokevirtual 346, 3) := by decide +kernel
theorem dX8_ifPinned_76 : decode cX8_ifPinned 76 = .ok (.ireturn, 1) := by decide +kernel
theorem dX8_leastEnd_0 : decode cX8_leastEnd 0 = .ok (.iconst 1, 1) := by decide +kernel
theorem dX8_leastEnd_1 : decode cX8_leastEnd 1 = .ok (.aload_n 0, 1) := by decide +kernel
theorem dX8_leastEnd_2 : decode cX8_leastEnd 2 = .ok (.getfield 19, 3) := by decide +kernel
theorem dX8_leastEnd_5 : decode cX8_leastEnd 5 = .ok (.invokevirtual 188, 3) := by decide +kernel
theorem dX8_leastEnd_8 : decode cX8_leastEnd 8 = .ok (.invokestatic 353, 3) := by decide +kernel
theorem dX8_leastEnd_11 : decode cX8_leastEnd 11 = .ok (.ireturn, 1) := by decide +kernel
theorem dX8_log_0 : decode cX8_log 0 = .ok (.iload_n 1, 1) := by decide +kernel
theorem dX8_log_1 : decode cX8_log 1 = .ok (.ifCond .lt 12, 3) := by decide +kernel
theorem dX8_log_4 : decode cX8_log 4 = .ok (.iload_n 2, 1) := by decide +kernel
theorem dX8_log_5 : decode cX8_log 5 = .ok (.ifCond .lt 8, 3) := by decide +kernel
theorem dX8_log_8 : decode cX8_log 8 = .ok (.iload_n 2, 1) := by decide +kernel
theorem dX8_log_9 : decode cX8_log 9 = .ok (.iconst 2, 1) := by decide +kernel
theorem dX8_log_10 : decode cX8_log 10 = .ok (.if_icmp .le 5, 3) := by decide +kernel
theorem dX8_log_13 : decode cX8_log 13 = .ok (.iconst (-1), 1) := by decide +kernel
theorem dX8_log_14 : decode cX8_log 14 = .ok (.ireturn, 1) := by decide +kernel
theorem dX8_log_15 : decode cX8_log 15 = .ok (.iload_n 1, 1) := by decide +kernel
theorem dX8_log_16 : decode cX8_log 16 = .ok (.aload_n 0, 1) := by decide +kernel
theorem dX8_log_17 : decode cX8_log 17 = .ok (.getfield 12, 3) := by decide +kernel
theorem dX8_log_20 : decode cX8_log 20 = .ok (.getfield 124, 3) := by decide +kernel
theorem dX8_log_23 : decode cX8_log 23 = .ok (.getfield 254, 3) := by decide +kernel
theorem dX8_log_26 : decode cX8_log 26 = .ok (.if_icmp .ge 18, 3) := by decide +kernel
theorem dX8_log_29 : decode cX8_log 29 = .ok (.aload_n 0, 1) := by decide +kernel
theorem dX8_log_30 : decode cX8_log 30 = .ok (.getfield 12, 3) := by decide +kernel
theorem dX8_log_33 : decode cX8_log 33 = .ok (.getfield 124, 3) := by decide +kernel
theorem dX8_log_36 : decode cX8_log 36 = .ok (.iload_n 1, 1) := by decide +kernel
theorem dX8_log_37 : decode cX8_log 37 = .ok (.iload_n 2, 1) := by decide +kernel
theorem dX8_log_38 : decode cX8_log 38 = .ok (.invokevirtual 356, 3) := by decide +kernel
theorem dX8_log_41 : decode cX8_log 41 = .ok (.goto 5, 3) := by decide +kernel
theorem dX8_log_44 : decode cX8_log 44 = .ok (.bipush (-2), 2) := by decide +kernel
theorem dX8_log_46 : decode cX8_log 46 = .ok (.ireturn, 1) := by decide +kernel
theorem dX8_tightShare_0 : decode cX8_tightShare 0 = .ok (.aload_n 0, 1) := by decide +kernel
theorem dX8_tightShare_1 : decode cX8_tightShare 1 = .ok (.getfield 12, 3) := by decide +kernel
theorem dX8_tightShare_4 : decode cX8_tightShare 4 = .ok (.invokevirtual 239, 3) := by decide +kernel
theorem dX8_tightShare_7 : decode cX8_tightShare 7 = .ok (.istore_n 1, 1) := by decide +kernel
theorem dX8_tightShare_8 : decode cX8_tightShare 8 = .ok (.iload_n 1, 1) := by decide +kernel
theorem dX8_tightShare_9 : decode cX8_tightShare 9 = .ok (.ifCond .ne 7, 3) := by decide +kernel
theorem dX8_tightShare_12 : decode cX8_tightShare 12 = .ok (.fconst 0, 1) := by decide +kernel
theorem dX8_tightShare_13 : decode cX8_tightShare 13 = .ok (.goto 11, 3) := by decide +kernel
theorem dX8_tightShare_16 : decode cX8_tightShare 16 = .ok (.aload_n 0, 1) := by decide +kernel
theorem dX8_tightShare_17 : decode cX8_tightShare 17 = .ok (.invokevirtual 245, 3) := by decide +kernel
theorem dX8_tightShare_20 : decode cX8_tightShare 20 = .ok (.i2f, 1) := by decide +kernel
theorem dX8_tightShare_21 : decode cX8_tightShare 21 = .ok (.iload_n 1, 1) := by decide +kernel
theorem dX8_tightShare_22 : decode cX8_tightShare 22 = .ok (.i2f, 1) := by decide +kernel
theorem dX8_tightShare_23 : decode cX8_tightShare 23 = .ok (.fdiv, 1) := by decide +kernel
theorem dX8_tightShare_24 : decode cX8_tightShare 24 = .ok (.freturn, 1) := by decide +kernel
theorem dX8_meanRoom_0 : decode cX8_meanRoom 0 = .ok (.aload_n 0, 1) := by decide +kernel
theorem dX8_meanRoom_1 : decode cX8_meanRoom 1 = .ok (.getfield 12, 3) := by decide +kernel
theorem dX8_meanRoom_4 : decode cX8_meanRoom 4 = .ok (.getfield 102, 3) := by decide +kernel
theorem dX8_meanRoom_7 : decode cX8_meanRoom 7 = .ok (.ifCond .ne 7, 3) := by decide +kernel
theorem dX8_meanRoom_10 : decode cX8_meanRoom 10 = .ok (.dconst 0, 1) := by decide +kernel
theorem dX8_meanRoom_11 : decode cX8_meanRoom 11 = .ok (.goto 20, 3) := by decide +kernel
theorem dX8_meanRoom_14 : decode cX8_meanRoom 14 = .ok (.aload_n 0, 1) := by decide +kernel
theorem dX8_meanRoom_15 : decode cX8_meanRoom 15 = .ok (.getfield 19, 3) := by decide +kernel
theorem dX8_meanRoom_18 : decode cX8_meanRoom 18 = .ok (.invokevirtual 214, 3) := by decide +kernel
theorem dX8_meanRoom_21 : decode cX8_meanRoom 21 = .ok (.i2d, 1) := by decide +kernel
theorem dX8_meanRoom_22 : decode cX8_meanRoom 22 = .ok (.aload_n 0, 1) := by decide +kernel
theorem dX8_meanRoom_23 : decode cX8_meanRoom 23 = .ok (.getfield 12, 3) := by decide +kernel
theorem dX8_meanRoom_26 : decode cX8_meanRoom 26 = .ok (.getfield 102, 3) := by decide +kernel
theorem dX8_meanRoom_29 : decode cX8_meanRoom 29 = .ok (.i2d, 1) := by decide +kernel
theorem dX8_meanRoom_30 : decode cX8_meanRoom 30 = .ok (.ddiv, 1) := by decide +kernel
theorem dX8_meanRoom_31 : decode cX8_meanRoom 31 = .ok (.dreturn, 1) := by decide +kernel
theorem dX8_listLength_0 : decode cX8_listLength 0 = .ok (.aload_n 0, 1) := by decide +kernel
theorem dX8_listLength_1 : decode cX8_listLength 1 = .ok (.getfield 55, 3) := by decide +kernel
theorem dX8_listLength_4 : decode cX8_listLength 4 = .ok (.aload_n 0, 1) := by decide +kernel
theorem dX8_listLength_5 : decode cX8_listLength 5 = .ok (.getfield 12, 3) := by decide +kernel
theorem dX8_listLength_8 : decode cX8_listLength 8 = .ok (.aload_n 0, 1) := by decide +kernel
theorem dX8_listLength_9 : decode cX8_listLength 9 = .ok (.getfield 19, 3) := by decide +kernel
theorem dX8_listLength_12 : decode cX8_listLength 12 = .ok (.invokevirtual 359, 3) := by decide +kernel
theorem dX8_listLength_15 : decode cX8_listLength 15 = .ok (.aload_n 0, 1) := by decide +kernel
theorem dX8_listLength_16 : decode cX8_listLength 16 = .ok (.getfield 55, 3) := by decide +kernel
theorem dX8_listLength_19 : decode cX8_listLength 19 = .ok (.getfield 363, 3) := by decide +kernel
theorem dX8_listLength_22 : decode cX8_listLength 22 = .ok (.ireturn, 1) := by decide +kernel
theorem dX8_listByte_0 : decode cX8_listByte 0 = .ok (.iload_n 1, 1) := by decide +kernel
theorem dX8_listByte_1 : decode cX8_listByte 1 = .ok (.ifCond .ge 5, 3) := by decide +kernel
theorem dX8_listByte_4 : decode cX8_listByte 4 = .ok (.iconst (-1), 1) := by decide +kernel
theorem dX8_listByte_5 : decode cX8_listByte 5 = .ok (.ireturn, 1) := by decide +kernel
theorem dX8_listByte_6 : decode cX8_listByte 6 = .ok (.aload_n 0, 1) := by decide +kernel
theorem dX8_listByte_7 : decode cX8_listByte 7 = .ok (.getfield 55, 3) := by decide +kernel
theorem dX8_listByte_10 : decode cX8_listByte 10 = .ok (.aload_n 0, 1) := by decide +kernel
theorem dX8_listByte_11 : decode cX8_listByte 11 = .ok (.getfield 12, 3) := by decide +kernel
theorem dX8_listByte_14 : decode cX8_listByte 14 = .ok (.aload_n 0, 1) := by decide +kernel
theorem dX8_listByte_15 : decode cX8_listByte 15 = .ok (.getfield 19, 3) := by decide +kernel
theorem dX8_listByte_18 : decode cX8_listByte 18 = .ok (.invokevirtual 359, 3) := by decide +kernel
theorem dX8_listByte_21 : decode cX8_listByte 21 = .ok (.aload_n 0, 1) := by decide +kernel
theorem dX8_listByte_22 : decode cX8_listByte 22 = .ok (.getfield 55, 3) := by decide +kernel
theorem dX8_listByte_25 : decode cX8_listByte 25 = .ok (.iload_n 1, 1) := by decide +kernel
theorem dX8_listByte_26 : decode cX8_listByte 26 = .ok (.invokevirtual 364, 3) := by decide +kernel
theorem dX8_listByte_29 : decode cX8_listByte 29 = .ok (.ireturn, 1) := by decide +kernel
theorem dX8_setupLength_0 : decode cX8_setupLength 0 = .ok (.aload_n 0, 1) := by decide +kernel
theorem dX8_setupLength_1 : decode cX8_setupLength 1 = .ok (.getfield 55, 3) := by decide +kernel
theorem dX8_setupLength_4 : decode cX8_setupLength 4 = .ok (.aload_n 0, 1) := by decide +kernel
theorem dX8_setupLength_5 : decode cX8_setupLength 5 = .ok (.getfield 12, 3) := by decide +kernel
theorem dX8_setupLength_8 : decode cX8_setupLength 8 = .ok (.invokevirtual 367, 3) := by decide +kernel
theorem dX8_setupLength_11 : decode cX8_setupLength 11 = .ok (.aload_n 0, 1) := by decide +kernel
theorem dX8_setupLength_12 : decode cX8_setupLength 12 = .ok (.getfield 55, 3) := by decide +kernel
theorem dX8_setupLength_15 : decode cX8_setupLength 15 = .ok (.getfield 363, 3) := by decide +kernel
theorem dX8_setupLength_18 : decode cX8_setupLength 18 = .ok (.ireturn, 1) := by decide +kernel
theorem dX8_setupByte_0 : decode cX8_setupByte 0 = .ok (.iload_n 1, 1) := by decide +kernel
theorem dX8_setupByte_1 : decode cX8_setupByte 1 = .ok (.ifCond .ge 5, 3) := by decide +kernel
theorem dX8_setupByte_4 : decode cX8_setupByte 4 = .ok (.iconst (-1), 1) := by decide +kernel
theorem dX8_setupByte_5 : decode cX8_setupByte 5 = .ok (.ireturn, 1) := by decide +kernel
theorem dX8_setupByte_6 : decode cX8_setupByte 6 = .ok (.aload_n 0, 1) := by decide +kernel
theorem dX8_setupByte_7 : decode cX8_setupByte 7 = .ok (.getfield 55, 3) := by decide +kernel
theorem dX8_setupByte_10 : decode cX8_setupByte 10 = .ok (.aload_n 0, 1) := by decide +kernel
theorem dX8_setupByte_11 : decode cX8_setupByte 11 = .ok (.getfield 12, 3) := by decide +kernel
theorem dX8_setupByte_14 : decode cX8_setupByte 14 = .ok (.invokevirtual 367, 3) := by decide +kernel
theorem dX8_setupByte_17 : decode cX8_setupByte 17 = .ok (.aload_n 0, 1) := by decide +kernel
theorem dX8_setupByte_18 : decode cX8_setupByte 18 = .ok (.getfield 55, 3) := by decide +kernel
theorem dX8_setupByte_21 : decode cX8_setupByte 21 = .ok (.iload_n 1, 1) := by decide +kernel
theorem dX8_setupByte_22 : decode cX8_setupByte 22 = .ok (.invokevirtual 364, 3) := by decide +kernel
theorem dX8_setupByte_25 : decode cX8_setupByte 25 = .ok (.ireturn, 1) := by decide +kernel
theorem dX8_isEvent_0 : decode cX8_isEvent 0 = .ok (.iload_n 1, 1) := by decide +kernel
theorem dX8_isEvent_1 : decode cX8_isEvent 1 = .ok (.ifCond .lt 18, 3) := by decide +kernel
theorem dX8_isEvent_4 : decode cX8_isEvent 4 = .ok (.iload_n 1, 1) := by decide +kernel
theorem dX8_isEvent_5 : decode cX8_isEvent 5 = .ok (.aload_n 0, 1) := by decide +kernel
theorem dX8_isEvent_6 : decode cX8_isEvent 6 = .ok (.getfield 12, 3) := by decide +kernel
theorem dX8_isEvent_9 : decode cX8_isEvent 9 = .ok (.getfield 102, 3) := by decide +kernel
theorem dX8_isEvent_12 : decode cX8_isEvent 12 = .ok (.if_icmp .ge 7, 3) := by decide +kernel
theorem dX8_isEvent_15 : decode cX8_isEvent 15 = .ok (.iconst 1, 1) := by decide +kernel
theorem dX8_isEvent_16 : decode cX8_isEvent 16 = .ok (.goto 4, 3) := by decide +kernel
theorem dX8_isEvent_19 : decode cX8_isEvent 19 = .ok (.iconst 0, 1) := by decide +kernel
theorem dX8_isEvent_20 : decode cX8_isEvent 20 = .ok (.ireturn, 1) := by decide +kernel
theorem dX8_areTwoEvents_0 : decode cX8_areTwoEvents 0 = .ok (.aload_n 0, 1) := by decide +kernel
theorem dX8_areTwoEvents_1 : decode cX8_areTwoEvents 1 = .ok (.iload_n 1, 1) := by decide +kernel
theorem dX8_areTwoEvents_2 : decode cX8_areTwoEvents 2 = .ok (.invokevirtual 163, 3) := by decide +kernel
theorem dX8_areTwoEvents_5 : decode cX8_areTwoEvents 5 = .ok (.ifCond .eq 20, 3) := by decide +kernel
theorem dX8_areTwoEvents_8 : decode cX8_areTwoEvents 8 = .ok (.aload_n 0, 1) := by decide +kernel
theorem dX8_areTwoEvents_9 : decode cX8_areTwoEvents 9 = .ok (.iload_n 2, 1) := by decide +kernel
theorem dX8_areTwoEvents_10 : decode cX8_areTwoEvents 10 = .ok (.invokevirtual 163, 3) := by decide +kernel
theorem dX8_areTwoEvents_13 : decode cX8_areTwoEvents 13 = .ok (.ifCond .eq 12, 3) := by decide +kernel
theorem dX8_areTwoEvents_16 : decode cX8_areTwoEvents 16 = .ok (.iload_n 1, 1) := by decide +kernel
theorem dX8_areTwoEvents_17 : decode cX8_areTwoEvents 17 = .ok (.iload_n 2, 1) := by decide +kernel
theorem dX8_areTwoEvents_18 : decode cX8_areTwoEvents 18 = .ok (.if_icmp .eq 7, 3) := by decide +kernel
theorem dX8_areTwoEvents_21 : decode cX8_areTwoEvents 21 = .ok (.iconst 1, 1) := by decide +kernel
theorem dX8_areTwoEvents_22 : decode cX8_areTwoEvents 22 = .ok (.goto 4, 3) := by decide +kernel
theorem dX8_areTwoEvents_25 : decode cX8_areTwoEvents 25 = .ok (.iconst 0, 1) := by decide +kernel
theorem dX8_areTwoEvents_26 : decode cX8_areTwoEvents 26 = .ok (.ireturn, 1) := by decide +kernel
theorem dX8_isGap_0 : decode cX8_isGap 0 = .ok (.iload_n 1, 1) := by decide +kernel
theorem dX8_isGap_1 : decode cX8_isGap 1 = .ok (.ifCond .lt 18, 3) := by decide +kernel
theorem dX8_isGap_4 : decode cX8_isGap 4 = .ok (.iload_n 1, 1) := by decide +kernel
theorem dX8_isGap_5 : decode cX8_isGap 5 = .ok (.aload_n 0, 1) := by decide +kernel
theorem dX8_isGap_6 : decode cX8_isGap 6 = .ok (.getfield 12, 3) := by decide +kernel
theorem dX8_isGap_9 : decode cX8_isGap 9 = .ok (.getfield 96, 3) := by decide +kernel
theorem dX8_isGap_12 : decode cX8_isGap 12 = .ok (.if_icmp .ge 7, 3) := by decide +kernel
theorem dX8_isGap_15 : decode cX8_isGap 15 = .ok (.iconst 1, 1) := by decide +kernel
theorem dX8_isGap_16 : decode cX8_isGap 16 = .ok (.goto 4, 3) := by decide +kernel
theorem dX8_isGap_19 : decode cX8_isGap 19 = .ok (.iconst 0, 1) := by decide +kernel
theorem dX8_isGap_20 : decode cX8_isGap 20 = .ok (.ireturn, 1) := by decide +kernel
theorem dX8_isTellable_0 : decode cX8_isTellable 0 = .ok (.aload_n 0, 1) := by decide +kernel
theorem dX8_isTellable_1 : decode cX8_isTellable 1 = .ok (.iload_n 1, 1) := by decide +kernel
theorem dX8_isTellable_2 : decode cX8_isTellable 2 = .ok (.iload_n 2, 1) := by decide +kernel
theorem dX8_isTellable_3 : decode cX8_isTellable 3 = .ok (.invokevirtual 286, 3) := by decide +kernel
theorem dX8_isTellable_6 : decode cX8_isTellable 6 = .ok (.ifCond .eq 22, 3) := by decide +kernel
theorem dX8_isTellable_9 : decode cX8_isTellable 9 = .ok (.iload_n 3, 1) := by decide +kernel
theorem dX8_isTellable_10 : decode cX8_isTellable 10 = .ok (.invokestatic 325, 3) := by decide +kernel
theorem dX8_isTellable_13 : decode cX8_isTellable 13 = .ok (.ifCond .eq 15, 3) := by decide +kernel
theorem dX8_isTellable_16 : decode cX8_isTellable 16 = .ok (.iload 4, 2) := by decide +kernel
theorem dX8_isTellable_18 : decode cX8_isTellable 18 = .ok (.invokestatic 148, 3) := by decide +kernel
theorem dX8_isTellable_21 : decode cX8_isTellable 21 = .ok (.ifCond .eq 7, 3) := by decide +kernel
theorem dX8_isTellable_24 : decode cX8_isTellable 24 = .ok (.iconst 1, 1) := by decide +kernel
theorem dX8_isTellable_25 : decode cX8_isTellable 25 = .ok (.goto 4, 3) := by decide +kernel
theorem dX8_isTellable_28 : decode cX8_isTellable 28 = .ok (.iconst 0, 1) := by decide +kernel
theorem dX8_isTellable_29 : decode cX8_isTellable 29 = .ok (.ireturn, 1) := by decide +kernel
theorem dX8_isTime_0 : decode cX8_isTime 0 = .ok (.iload_n 1, 1) := by decide +kernel
theorem dX8_isTime_1 : decode cX8_isTime 1 = .ok (.ifCond .lt 18, 3) := by decide +kernel
theorem dX8_isTime_4 : decode cX8_isTime 4 = .ok (.iload_n 1, 1) := by decide +kernel
theorem dX8_isTime_5 : decode cX8_isTime 5 = .ok (.aload_n 0, 1) := by decide +kernel
theorem dX8_isTime_6 : decode cX8_isTime 6 = .ok (.getfield 12, 3) := by decide +kernel
theorem dX8_isTime_9 : decode cX8_isTime 9 = .ok (.getfield 185, 3) := by decide +kernel
theorem dX8_isTime_12 : decode cX8_isTime 12 = .ok (.if_icmp .gt 7, 3) := by decide +kernel
theorem dX8_isTime_15 : decode cX8_isTime 15 = .ok (.iconst 1, 1) := by decide +kernel
theorem dX8_isTime_16 : decode cX8_isTime 16 = .ok (.goto 4, 3) := by decide +kernel
theorem dX8_isTime_19 : decode cX8_isTime 19 = .ok (.iconst 0, 1) := by decide +kernel
theorem dX8_isTime_20 : decode cX8_isTime 20 = .ok (.ireturn, 1) := by decide +kernel
theorem dX8_isPinnable_0 : decode cX8_isPinnable 0 = .ok (.iload_n 1, 1) := by decide +kernel
theorem dX8_isPinnable_1 : decode cX8_isPinnable 1 = .ok (.ifCond .eq 18, 3) := by decide +kernel
theorem dX8_isPinnable_4 : decode cX8_isPinnable 4 = .ok (.aload_n 0, 1) := by decide +kernel
theorem dX8_isPinnable_5 : decode cX8_isPinnable 5 = .ok (.getfield 12, 3) := by decide +kernel
theorem dX8_isPinnable_8 : decode cX8_isPinnable 8 = .ok (.iload_n 1, 1) := by decide +kernel
theorem dX8_isPinnable_9 : decode cX8_isPinnable 9 = .ok (.invokevirtual 182, 3) := by decide +kernel
theorem dX8_isPinnable_12 : decode cX8_isPinnable 12 = .ok (.ifCond .ne 7, 3) := by decide +kernel
theorem dX8_isPinnable_15 : decode cX8_isPinnable 15 = .ok (.iconst 1, 1) := by decide +kernel
theorem dX8_isPinnable_16 : decode cX8_isPinnable 16 = .ok (.goto 4, 3) := by decide +kernel
theorem dX8_isPinnable_19 : decode cX8_isPinnable 19 = .ok (.iconst 0, 1) := by decide +kernel
theorem dX8_isPinnable_20 : decode cX8_isPinnable 20 = .ok (.ireturn, 1) := by decide +kernel
theorem dX8_isNewNameOnTape_0 : decode cX8_isNewNameOnTape 0 = .ok (.aload_n 0, 1) := by decide +kernel
theorem dX8_isNewNameOnTape_1 : decode cX8_isNewNameOnTape 1 = .ok (.getfield 51, 3) := by decide +kernel
theorem dX8_isNewNameOnTape_4 : decode cX8_isNewNameOnTape 4 = .ok (.iconst 0, 1) := by decide +kernel
theorem dX8_isNewNameOnTape_5 : decode cX8_isNewNameOnTape 5 = .ok (.aload_n 0, 1) := by decide +kernel
theorem dX8_isNewNameOnTape_6 : decode cX8_isNewNameOnTape 6 = .ok (.getfield 51, 3) := by decide +kernel
theorem dX8_isNewNameOnTape_9 : decode cX8_isNewNameOnTape 9 = .ok (.getfield 70, 3) := by decide +kernel
theorem dX8_isNewNameOnTape_12 : decode cX8_isNewNameOnTape 12 = .ok (.invokevirtual 370, 3) := by decide +kernel
theorem dX8_isNewNameOnTape_15 : decode cX8_isNewNameOnTape 15 = .ok (.ifCond .eq 30, 3) := by decide +kernel
theorem dX8_isNewNameOnTape_18 : decode cX8_isNewNameOnTape 18 = .ok (.aload_n 0, 1) := by decide +kernel
theorem dX8_isNewNameOnTape_19 : decode cX8_isNewNameOnTape 19 = .ok (.getfield 12, 3) := by decide +kernel
theorem dX8_isNewNameOnTape_22 : decode cX8_isNewNameOnTape 22 = .ok (.aload_n 0, 1) := by decide +kernel
theorem dX8_isNewNameOnTape_23 : decode cX8_isNewNameOnTape 23 = .ok (.getfield 51, 3) := by decide +kernel
theorem dX8_isNewNameOnTape_26 : decode cX8_isNewNameOnTape 26 = .ok (.iconst 0, 1) := by decide +kernel
theorem dX8_isNewNameOnTape_27 : decode cX8_isNewNameOnTape 27 = .ok (.aload_n 0, 1) := by decide +kernel
theorem dX8_isNewNameOnTape_28 : decode cX8_isNewNameOnTape 28 = .ok (.getfield 51, 3) := by decide +kernel
theorem dX8_isNewNameOnTape_31 : decode cX8_isNewNameOnTape 31 = .ok (.getfield 70, 3) := by decide +kernel
theorem dX8_isNewNameOnTape_34 : decode cX8_isNewNameOnTape 34 = .ok (.invokevirtual 373, 3) := by decide +kernel
theorem dX8_isNewNameOnTape_37 : decode cX8_isNewNameOnTape 37 = .ok (.iconst (-1), 1) := by decide +kernel
theorem dX8_isNewNameOnTape_38 : decode cX8_isNewNameOnTape 38 = .ok (.if_icmp .ne 7, 3) := by decide +kernel
theorem dX8_isNewNameOnTape_41 : decode cX8_isNewNameOnTape 41 = .ok (.iconst 1, 1) := by decide +kernel
theorem dX8_isNewNameOnTape_42 : decode cX8_isNewNameOnTape 42 = .ok (.goto 4, 3) := by decide +kernel
theorem dX8_isNewNameOnTape_45 : decode cX8_isNewNameOnTape 45 = .ok (.iconst 0, 1) := by decide +kernel
theorem dX8_isNewNameOnTape_46 : decode cX8_isNewNameOnTape 46 = .ok (.ireturn, 1) := by decide +kernel
theorem dX8_isKind_0 : decode cX8_isKind 0 = .ok (.iload_n 0, 1) := by decide +kernel
theorem dX8_isKind_1 : decode cX8_isKind 1 = .ok (.ifCond .eq 8, 3) := by decide +kernel
theorem dX8_isKind_4 : decode cX8_isKind 4 = .ok (.iload_n 0, 1) := by decide +kernel
theorem dX8_isKind_5 : decode cX8_isKind 5 = .ok (.iconst 1, 1) := by decide +kernel
theorem dX8_isKind_6 : decode cX8_isKind 6 = .ok (.if_icmp .ne 7, 3) := by decide +kernel
theorem dX8_isKind_9 : decode cX8_isKind 9 = .ok (.iconst 1, 1) := by decide +kernel
theorem dX8_isKind_10 : decode cX8_isKind 10 = .ok (.goto 4, 3) := by decide +kernel
theorem dX8_isKind_13 : decode cX8_isKind 13 = .ok (.iconst 0, 1) := by decide +kernel
theorem dX8_isKind_14 : decode cX8_isKind 14 = .ok (.ireturn, 1) := by decide +kernel
theorem dX8_isNumber_0 : decode cX8_isNumber 0 = .ok (.iload_n 0, 1) := by decide +kernel
theorem dX8_isNumber_1 : decode cX8_isNumber 1 = .ok (.ifCond .lt 14, 3) := by decide +kernel
theorem dX8_isNumber_4 : decode cX8_isNumber 4 = .ok (.iload_n 0, 1) := by decide +kernel
theorem dX8_isNumber_5 : decode cX8_isNumber 5 = .ok (.sipush 999, 3) := by decide +kernel
theorem dX8_isNumber_8 : decode cX8_isNumber 8 = .ok (.if_icmp .gt 7, 3) := by decide +kernel
theorem dX8_isNumber_11 : decode cX8_isNumber 11 = .ok (.iconst 1, 1) := by decide +kernel
theorem dX8_isNumber_12 : decode cX8_isNumber 12 = .ok (.goto 4, 3) := by decide +kernel
theorem dX8_isNumber_15 : decode cX8_isNumber 15 = .ok (.iconst 0, 1) := by decide +kernel
theorem dX8_isNumber_16 : decode cX8_isNumber 16 = .ok (.ireturn, 1) := by decide +kernel
theorem dX8_isSlot_0 : decode cX8_isSlot 0 = .ok (.iload_n 0, 1) := by decide +kernel
theorem dX8_isSlot_1 : decode cX8_isSlot 1 = .ok (.ifCond .lt 12, 3) := by decide +kernel
theorem dX8_isSlot_4 : decode cX8_isSlot 4 = .ok (.iload_n 0, 1) := by decide +kernel
theorem dX8_isSlot_5 : decode cX8_isSlot 5 = .ok (.iconst 2, 1) := by decide +kernel
theorem dX8_isSlot_6 : decode cX8_isSlot 6 = .ok (.if_icmp .ge 7, 3) := by decide +kernel
theorem dX8_isSlot_9 : decode cX8_isSlot 9 = .ok (.iconst 1, 1) := by decide +kernel
theorem dX8_isSlot_10 : decode cX8_isSlot 10 = .ok (.goto 4, 3) := by decide +kernel
theorem dX8_isSlot_13 : decode cX8_isSlot 13 = .ok (.iconst 0, 1) := by decide +kernel
theorem dX8_isSlot_14 : decode cX8_isSlot 14 = .ok (.ireturn, 1) := by decide +kernel
theorem dX8_isChange_0 : decode cX8_isChange 0 = .ok (.iload_n 0, 1) := by decide +kernel
theorem dX8_isChange_1 : decode cX8_isChange 1 = .ok (.ifCond .lt 12, 3) := by decide +kernel
theorem dX8_isChange_4 : decode cX8_isChange 4 = .ok (.iload_n 0, 1) := by decide +kernel
theorem dX8_isChange_5 : decode cX8_isChange 5 = .ok (.iconst 2, 1) := by decide +kernel
theorem dX8_isChange_6 : decode cX8_isChange 6 = .ok (.if_icmp .gt 7, 3) := by decide +kernel
theorem dX8_isChange_9 : decode cX8_isChange 9 = .ok (.iconst 1, 1) := by decide +kernel
theorem dX8_isChange_10 : decode cX8_isChange 10 = .ok (.goto 4, 3) := by decide +kernel
theorem dX8_isChange_13 : decode cX8_isChange 13 = .ok (.iconst 0, 1) := by decide +kernel
theorem dX8_isChange_14 : decode cX8_isChange 14 = .ok (.ireturn, 1) := by decide +kernel
theorem dX8_asNumber_0 : decode cX8_asNumber 0 = .ok (.iload_n 0, 1) := by decide +kernel
theorem dX8_asNumber_1 : decode cX8_asNumber 1 = .ok (.ifCond .eq 7, 3) := by decide +kernel
theorem dX8_asNumber_4 : decode cX8_asNumber 4 = .ok (.iconst 1, 1) := by decide +kernel
theorem dX8_asNumber_5 : decode cX8_asNumber 5 = .ok (.goto 4, 3) := by decide +kernel
theorem dX8_asNumber_8 : decode cX8_asNumber 8 = .ok (.iconst 0, 1) := by decide +kernel
theorem dX8_asNumber_9 : decode cX8_asNumber 9 = .ok (.ireturn, 1) := by decide +kernel
theorem dX8_finish_0 : decode cX8_finish 0 = .ok (.aload_n 0, 1) := by decide +kernel
theorem dX8_finish_1 : decode cX8_finish 1 = .ok (.getfield 12, 3) := by decide +kernel
theorem dX8_finish_4 : decode cX8_finish 4 = .ok (.getfield 124, 3) := by decide +kernel
theorem dX8_finish_7 : decode cX8_finish 7 = .ok (.iload_n 1, 1) := by decide +kernel
theorem dX8_finish_8 : decode cX8_finish 8 = .ok (.iload_n 2, 1) := by decide +kernel
theorem dX8_finish_9 : decode cX8_finish 9 = .ok (.iload_n 3, 1) := by decide +kernel
theorem dX8_finish_10 : decode cX8_finish 10 = .ok (.invokevirtual 128, 3) := by decide +kernel
theorem dX8_finish_13 : decode cX8_finish 13 = .ok (.aload_n 0, 1) := by decide +kernel
theorem dX8_finish_14 : decode cX8_finish 14 = .ok (.getfield 19, 3) := by decide +kernel
theorem dX8_finish_17 : decode cX8_finish 17 = .ok (.aload_n 0, 1) := by decide +kernel
theorem dX8_finish_18 : decode cX8_finish 18 = .ok (.getfield 12, 3) := by decide +kernel
theorem dX8_finish_21 : decode cX8_finish 21 = .ok (.iconst (-1), 1) := by decide +kernel
theorem dX8_finish_22 : decode cX8_finish 22 = .ok (.invokevirtual 66, 3) := by decide +kernel
theorem dX8_finish_25 : decode cX8_finish 25 = .ok (.return_, 1) := by decide +kernel
theorem dX8_beginOf_0 : decode cX8_beginOf 0 = .ok (.aload_n 0, 1) := by decide +kernel
theorem dX8_beginOf_1 : decode cX8_beginOf 1 = .ok (.getfield 12, 3) := by decide +kernel
theorem dX8_beginOf_4 : decode cX8_beginOf 4 = .ok (.getfield 195, 3) := by decide +kernel
theorem dX8_beginOf_7 : decode cX8_beginOf 7 = .ok (.iload_n 1, 1) := by decide +kernel
theorem dX8_beginOf_8 : decode cX8_beginOf 8 = .ok (.iaload, 1) := by decide +kernel
theorem dX8_beginOf_9 : decode cX8_beginOf 9 = .ok (.aload_n 0, 1) := by decide +kernel
theorem dX8_beginOf_10 : decode cX8_beginOf 10 = .ok (.getfield 12, 3) := by decide +kernel
theorem dX8_beginOf_13 : decode cX8_beginOf 13 = .ok (.getfield 198, 3) := by decide +kernel
theorem dX8_beginOf_16 : decode cX8_beginOf 16 = .ok (.iload_n 1, 1) := by decide +kernel
theorem dX8_beginOf_17 : decode cX8_beginOf 17 = .ok (.iaload, 1) := by decide +kernel
theorem dX8_beginOf_18 : decode cX8_beginOf 18 = .ok (.aload_n 0, 1) := by decide +kernel
theorem dX8_beginOf_19 : decode cX8_beginOf 19 = .ok (.getfield 12, 3) := by decide +kernel
theorem dX8_beginOf_22 : decode cX8_beginOf 22 = .ok (.getfield 204, 3) := by decide +kernel
theorem dX8_beginOf_25 : decode cX8_beginOf 25 = .ok (.iload_n 1, 1) := by decide +kernel
theorem dX8_beginOf_26 : decode cX8_beginOf 26 = .ok (.iaload, 1) := by decide +kernel
theorem dX8_beginOf_27 : decode cX8_beginOf 27 = .ok (.invokestatic 376, 3) := by decide +kernel
theorem dX8_beginOf_30 : decode cX8_beginOf 30 = .ok (.ireturn, 1) := by decide +kernel
theorem dX8_finishOf_0 : decode cX8_finishOf 0 = .ok (.aload_n 0, 1) := by decide +kernel
theorem dX8_finishOf_1 : decode cX8_finishOf 1 = .ok (.getfield 12, 3) := by decide +kernel
theorem dX8_finishOf_4 : decode cX8_finishOf 4 = .ok (.getfield 195, 3) := by decide +kernel
theorem dX8_finishOf_7 : decode cX8_finishOf 7 = .ok (.iload_n 1, 1) := by decide +kernel
theorem dX8_finishOf_8 : decode cX8_finishOf 8 = .ok (.iaload, 1) := by decide +kernel
theorem dX8_finishOf_9 : decode cX8_finishOf 9 = .ok (.aload_n 0, 1) := by decide +kernel
theorem dX8_finishOf_10 : decode cX8_finishOf 10 = .ok (.getfield 12, 3) := by decide +kernel
theorem dX8_finishOf_13 : decode cX8_finishOf 13 = .ok (.getfield 198, 3) := by decide +kernel
theorem dX8_finishOf_16 : decode cX8_finishOf 16 = .ok (.iload_n 1, 1) := by decide +kernel
theorem dX8_finishOf_17 : decode cX8_finishOf 17 = .ok (.iaload, 1) := by decide +kernel
theorem dX8_finishOf_18 : decode cX8_finishOf 18 = .ok (.aload_n 0, 1) := by decide +kernel
theorem dX8_finishOf_19 : decode cX8_finishOf 19 = .ok (.getfield 12, 3) := by decide +kernel
theorem dX8_finishOf_22 : decode cX8_finishOf 22 = .ok (.getfield 204, 3) := by decide +kernel
theorem dX8_finishOf_25 : decode cX8_finishOf 25 = .ok (.iload_n 1, 1) := by decide +kernel
theorem dX8_finishOf_26 : decode cX8_finishOf 26 = .ok (.iaload, 1) := by decide +kernel
theorem dX8_finishOf_27 : decode cX8_finishOf 27 = .ok (.invokestatic 379, 3) := by decide +kernel
theorem dX8_finishOf_30 : decode cX8_finishOf 30 = .ok (.ireturn, 1) := by decide +kernel
theorem dX8_lengthOf_0 : decode cX8_lengthOf 0 = .ok (.aload_n 0, 1) := by decide +kernel
theorem dX8_lengthOf_1 : decode cX8_lengthOf 1 = .ok (.getfield 12, 3) := by decide +kernel
theorem dX8_lengthOf_4 : decode cX8_lengthOf 4 = .ok (.getfield 204, 3) := by decide +kernel
theorem dX8_lengthOf_7 : decode cX8_lengthOf 7 = .ok (.iload_n 1, 1) := by decide +kernel
theorem dX8_lengthOf_8 : decode cX8_lengthOf 8 = .ok (.iaload, 1) := by decide +kernel
theorem dX8_lengthOf_9 : decode cX8_lengthOf 9 = .ok (.aload_n 0, 1) := by decide +kernel
theorem dX8_lengthOf_10 : decode cX8_lengthOf 10 = .ok (.getfield 12, 3) := by decide +kernel
theorem dX8_lengthOf_13 : decode cX8_lengthOf 13 = .ok (.getfield 141, 3) := by decide +kernel
theorem dX8_lengthOf_16 : decode cX8_lengthOf 16 = .ok (.iload_n 1, 1) := by decide +kernel
theorem dX8_lengthOf_17 : decode cX8_lengthOf 17 = .ok (.iaload, 1) := by decide +kernel
theorem dX8_lengthOf_18 : decode cX8_lengthOf 18 = .ok (.invokestatic 382, 3) := by decide +kernel
theorem dX8_lengthOf_21 : decode cX8_lengthOf 21 = .ok (.ireturn, 1) := by decide +kernel
theorem dX8_boundOf_0 : decode cX8_boundOf 0 = .ok (.aload_n 0, 1) := by decide +kernel
theorem dX8_boundOf_1 : decode cX8_boundOf 1 = .ok (.getfield 19, 3) := by decide +kernel
theorem dX8_boundOf_4 : decode cX8_boundOf 4 = .ok (.aload_n 0, 1) := by decide +kernel
theorem dX8_boundOf_5 : decode cX8_boundOf 5 = .ok (.iload_n 1, 1) := by decide +kernel
theorem dX8_boundOf_6 : decode cX8_boundOf 6 = .ok (.invokevirtual 299, 3) := by decide +kernel
theorem dX8_boundOf_9 : decode cX8_boundOf 9 = .ok (.aload_n 0, 1) := by decide +kernel
theorem dX8_boundOf_10 : decode cX8_boundOf 10 = .ok (.iload_n 1, 1) := by decide +kernel
theorem dX8_boundOf_11 : decode cX8_boundOf 11 = .ok (.invokevirtual 302, 3) := by decide +kernel
theorem dX8_boundOf_14 : decode cX8_boundOf 14 = .ok (.invokevirtual 282, 3) := by decide +kernel
theorem dX8_boundOf_17 : decode cX8_boundOf 17 = .ok (.ireturn, 1) := by decide +kernel
theorem dX8_ringOfGap_0 : decode cX8_ringOfGap 0 = .ok (.aload_n 0, 1) := by decide +kernel
theorem dX8_ringOfGap_1 : decode cX8_ringOfGap 1 = .ok (.getfield 19, 3) := by decide +kernel
theorem dX8_ringOfGap_4 : decode cX8_ringOfGap 4 = .ok (.aload_n 0, 1) := by decide +kernel
theorem dX8_ringOfGap_5 : decode cX8_ringOfGap 5 = .ok (.getfield 12, 3) := by decide +kernel
theorem dX8_ringOfGap_8 : decode cX8_ringOfGap 8 = .ok (.getfield 195, 3) := by decide +kernel
theorem dX8_ringOfGap_11 : decode cX8_ringOfGap 11 = .ok (.iload_n 1, 1) := by decide +kernel
theorem dX8_ringOfGap_12 : decode cX8_ringOfGap 12 = .ok (.iaload, 1) := by decide +kernel
theorem dX8_ringOfGap_13 : decode cX8_ringOfGap 13 = .ok (.aload_n 0, 1) := by decide +kernel
theorem dX8_ringOfGap_14 : decode cX8_ringOfGap 14 = .ok (.getfield 12, 3) := by decide +kernel
theorem dX8_ringOfGap_17 : decode cX8_ringOfGap 17 = .ok (.getfield 198, 3) := by decide +kernel
theorem dX8_ringOfGap_20 : decode cX8_ringOfGap 20 = .ok (.iload_n 1, 1) := by decide +kernel
theorem dX8_ringOfGap_21 : decode cX8_ringOfGap 21 = .ok (.iaload, 1) := by decide +kernel
theorem dX8_ringOfGap_22 : decode cX8_ringOfGap 22 = .ok (.aload_n 0, 1) := by decide +kernel
theorem dX8_ringOfGap_23 : decode cX8_ringOfGap 23 = .ok (.getfield 12, 3) := by decide +kernel
theorem dX8_ringOfGap_26 : decode cX8_ringOfGap 26 = .ok (.getfield 204, 3) := by decide +kernel
theorem dX8_ringOfGap_29 : decode cX8_ringOfGap 29 = .ok (.iload_n 1, 1) := by decide +kernel
theorem dX8_ringOfGap_30 : decode cX8_ringOfGap 30 = .ok (.iaload, 1) := by decide +kernel
theorem dX8_ringOfGap_31 : decode cX8_ringOfGap 31 = .ok (.iload_n 2, 1) := by decide +kernel
theorem dX8_ringOfGap_32 : decode cX8_ringOfGap 32 = .ok (.invokevirtual 120, 3) := by decide +kernel
theorem dX8_ringOfGap_35 : decode cX8_ringOfGap 35 = .ok (.ireturn, 1) := by decide +kernel
theorem dX8_isTight_0 : decode cX8_isTight 0 = .ok (.aload_n 0, 1) := by decide +kernel
theorem dX8_isTight_1 : decode cX8_isTight 1 = .ok (.getfield 12, 3) := by decide +kernel
theorem dX8_isTight_4 : decode cX8_isTight 4 = .ok (.getfield 151, 3) := by decide +kernel
theorem dX8_isTight_7 : decode cX8_isTight 7 = .ok (.iload_n 1, 1) := by decide +kernel
theorem dX8_isTight_8 : decode cX8_isTight 8 = .ok (.baload, 1) := by decide +kernel
theorem dX8_isTight_9 : decode cX8_isTight 9 = .ok (.ifCond .eq 20, 3) := by decide +kernel
theorem dX8_isTight_12 : decode cX8_isTight 12 = .ok (.aload_n 0, 1) := by decide +kernel
theorem dX8_isTight_13 : decode cX8_isTight 13 = .ok (.iload_n 1, 1) := by decide +kernel
theorem dX8_isTight_14 : decode cX8_isTight 14 = .ok (.invokevirtual 267, 3) := by decide +kernel
theorem dX8_isTight_17 : decode cX8_isTight 17 = .ok (.aload_n 0, 1) := by decide +kernel
theorem dX8_isTight_18 : decode cX8_isTight 18 = .ok (.iload_n 1, 1) := by decide +kernel
theorem dX8_isTight_19 : decode cX8_isTight 19 = .ok (.invokevirtual 270, 3) := by decide +kernel
theorem dX8_isTight_22 : decode cX8_isTight 22 = .ok (.if_icmp .ne 7, 3) := by decide +kernel
theorem dX8_isTight_25 : decode cX8_isTight 25 = .ok (.iconst 1, 1) := by decide +kernel
theorem dX8_isTight_26 : decode cX8_isTight 26 = .ok (.goto 4, 3) := by decide +kernel
theorem dX8_isTight_29 : decode cX8_isTight 29 = .ok (.iconst 0, 1) := by decide +kernel
theorem dX8_isTight_30 : decode cX8_isTight 30 = .ok (.ireturn, 1) := by decide +kernel
theorem dX8_isNeeded_0 : decode cX8_isNeeded 0 = .ok (.aload_n 0, 1) := by decide +kernel
theorem dX8_isNeeded_1 : decode cX8_isNeeded 1 = .ok (.iload_n 1, 1) := by decide +kernel
theorem dX8_isNeeded_2 : decode cX8_isNeeded 2 = .ok (.invokevirtual 261, 3) := by decide +kernel
theorem dX8_isNeeded_5 : decode cX8_isNeeded 5 = .ok (.ifCond .ne 5, 3) := by decide +kernel
theorem dX8_isNeeded_8 : decode cX8_isNeeded 8 = .ok (.iconst 0, 1) := by decide +kernel
theorem dX8_isNeeded_9 : decode cX8_isNeeded 9 = .ok (.ireturn, 1) := by decide +kernel
theorem dX8_isNeeded_10 : decode cX8_isNeeded 10 = .ok (.aload_n 0, 1) := by decide +kernel
theorem dX8_isNeeded_11 : decode cX8_isNeeded 11 = .ok (.getfield 23, 3) := by decide +kernel
theorem dX8_isNeeded_14 : decode cX8_isNeeded 14 = .ok (.aload_n 0, 1) := by decide +kernel
theorem dX8_isNeeded_15 : decode cX8_isNeeded 15 = .ok (.getfield 12, 3) := by decide +kernel
theorem dX8_isNeeded_18 : decode cX8_isNeeded 18 = .ok (.iload_n 1, 1) := by decide +kernel
theorem dX8_isNeeded_19 : decode cX8_isNeeded 19 = .ok (.invokevirtual 66, 3) := by decide +kernel
theorem dX8_isNeeded_22 : decode cX8_isNeeded 22 = .ok (.aload_n 0, 1) := by decide +kernel
theorem dX8_isNeeded_23 : decode cX8_isNeeded 23 = .ok (.getfield 23, 3) := by decide +kernel
theorem dX8_isNeeded_26 : decode cX8_isNeeded 26 = .ok (.aload_n 0, 1) := by decide +kernel
theorem dX8_isNeeded_27 : decode cX8_isNeeded 27 = .ok (.iload_n 1, 1) := by decide +kernel
theorem dX8_isNeeded_28 : decode cX8_isNeeded 28 = .ok (.invokevirtual 299, 3) := by decide +kernel
theorem dX8_isNeeded_31 : decode cX8_isNeeded 31 = .ok (.aload_n 0, 1) := by decide +kernel
theorem dX8_isNeeded_32 : decode cX8_isNeeded 32 = .ok (.iload_n 1, 1) := by decide +kernel
theorem dX8_isNeeded_33 : decode cX8_isNeeded 33 = .ok (.invokevirtual 302, 3) := by decide +kernel
theorem dX8_isNeeded_36 : decode cX8_isNeeded 36 = .ok (.invokevirtual 282, 3) := by decide +kernel
theorem dX8_isNeeded_39 : decode cX8_isNeeded 39 = .ok (.aload_n 0, 1) := by decide +kernel
theorem dX8_isNeeded_40 : decode cX8_isNeeded 40 = .ok (.iload_n 1, 1) := by decide +kernel
theorem dX8_isNeeded_41 : decode cX8_isNeeded 41 = .ok (.invokevirtual 270, 3) := by decide +kernel
theorem dX8_isNeeded_44 : decode cX8_isNeeded 44 = .ok (.if_icmp .le 7, 3) := by decide +kernel
theorem dX8_isNeeded_47 : decode cX8_isNeeded 47 = .ok (.iconst 1, 1) := by decide +kernel
theorem dX8_isNeeded_48 : decode cX8_isNeeded 48 = .ok (.goto 4, 3) := by decide +kernel
theorem dX8_isNeeded_51 : decode cX8_isNeeded 51 = .ok (.iconst 0, 1) := by decide +kernel
theorem dX8_isNeeded_52 : decode cX8_isNeeded 52 = .ok (.ireturn, 1) := by decide +kernel
theorem dX8_isLoose_0 : decode cX8_isLoose 0 = .ok (.aload_n 0, 1) := by decide +kernel
theorem dX8_isLoose_1 : decode cX8_isLoose 1 = .ok (.getfield 12, 3) := by decide +kernel
theorem dX8_isLoose_4 : decode cX8_isLoose 4 = .ok (.getfield 151, 3) := by decide +kernel
theorem dX8_isLoose_7 : decode cX8_isLoose 7 = .ok (.iload_n 1, 1) := by decide +kernel
theorem dX8_isLoose_8 : decode cX8_isLoose 8 = .ok (.baload, 1) := by decide +kernel
theorem dX8_isLoose_9 : decode cX8_isLoose 9 = .ok (.ifCond .eq 23, 3) := by decide +kernel
theorem dX8_isLoose_12 : decode cX8_isLoose 12 = .ok (.aload_n 0, 1) := by decide +kernel
theorem dX8_isLoose_13 : decode cX8_isLoose 13 = .ok (.iload_n 1, 1) := by decide +kernel
theorem dX8_isLoose_14 : decode cX8_isLoose 14 = .ok (.invokevirtual 261, 3) := by decide +kernel
theorem dX8_isLoose_17 : decode cX8_isLoose 17 = .ok (.ifCond .ne 15, 3) := by decide +kernel
theorem dX8_isLoose_20 : decode cX8_isLoose 20 = .ok (.aload_n 0, 1) := by decide +kernel
theorem dX8_isLoose_21 : decode cX8_isLoose 21 = .ok (.iload_n 1, 1) := by decide +kernel
theorem dX8_isLoose_22 : decode cX8_isLoose 22 = .ok (.invokevirtual 210, 3) := by decide +kernel
theorem dX8_isLoose_25 : decode cX8_isLoose 25 = .ok (.ifCond .lt 7, 3) := by decide +kernel
theorem dX8_isLoose_28 : decode cX8_isLoose 28 = .ok (.iconst 1, 1) := by decide +kernel
theorem dX8_isLoose_29 : decode cX8_isLoose 29 = .ok (.goto 4, 3) := by decide +kernel
theorem dX8_isLoose_32 : decode cX8_isLoose 32 = .ok (.iconst 0, 1) := by decide +kernel
theorem dX8_isLoose_33 : decode cX8_isLoose 33 = .ok (.ireturn, 1) := by decide +kernel
theorem dX8_tightNumber_0 : decode cX8_tightNumber 0 = .ok (.aload_n 0, 1) := by decide +kernel
theorem dX8_tightNumber_1 : decode cX8_tightNumber 1 = .ok (.getfield 12, 3) := by decide +kernel
theorem dX8_tightNumber_4 : decode cX8_tightNumber 4 = .ok (.getfield 204, 3) := by decide +kernel
theorem dX8_tightNumber_7 : decode cX8_tightNumber 7 = .ok (.iload_n 1, 1) := by decide +kernel
theorem dX8_tightNumber_8 : decode cX8_tightNumber 8 = .ok (.iaload, 1) := by decide +kernel
theorem dX8_tightNumber_9 : decode cX8_tightNumber 9 = .ok (.ifCond .ne 11, 3) := by decide +kernel
theorem dX8_tightNumber_12 : decode cX8_tightNumber 12 = .ok (.aload_n 0, 1) := by decide +kernel
theorem dX8_tightNumber_13 : decode cX8_tightNumber 13 = .ok (.iload_n 1, 1) := by decide +kernel
theorem dX8_tightNumber_14 : decode cX8_tightNumber 14 = .ok (.invokevirtual 270, 3) := by decide +kernel
theorem dX8_tightNumber_17 : decode cX8_tightNumber 17 = .ok (.goto 9, 3) := by decide +kernel
theorem dX8_tightNumber_20 : decode cX8_tightNumber 20 = .ok (.aload_n 0, 1) := by decide +kernel
theorem dX8_tightNumber_21 : decode cX8_tightNumber 21 = .ok (.iload_n 1, 1) := by decide +kernel
theorem dX8_tightNumber_22 : decode cX8_tightNumber 22 = .ok (.invokevirtual 270, 3) := by decide +kernel
theorem dX8_tightNumber_25 : decode cX8_tightNumber 25 = .ok (.ineg, 1) := by decide +kernel
theorem dX8_tightNumber_26 : decode cX8_tightNumber 26 = .ok (.ireturn, 1) := by decide +kernel
theorem dX8_tightestNumber_0 : decode cX8_tightestNumber 0 = .ok (.iload_n 3, 1) := by decide +kernel
theorem dX8_tightestNumber_1 : decode cX8_tightestNumber 1 = .ok (.ifCond .ne 35, 3) := by decide +kernel
theorem dX8_tightestNumber_4 : decode cX8_tightestNumber 4 = .ok (.iconst 0, 1) := by decide +kernel
theorem dX8_tightestNumber_5 : decode cX8_tightestNumber 5 = .ok (.aload_n 0, 1) := by decide +kernel
theorem dX8_tightestNumber_6 : decode cX8_tightestNumber 6 = .ok (.getfield 19, 3) := by decide +kernel
theorem dX8_tightestNumber_9 : decode cX8_tightestNumber 9 = .ok (.iload_n 2, 1) := by decide +kernel
theorem dX8_tightestNumber_10 : decode cX8_tightestNumber 10 = .ok (.iload_n 1, 1) := by decide +kernel
theorem dX8_tightestNumber_11 : decode cX8_tightestNumber 11 = .ok (.invokevirtual 282, 3) := by decide +kernel
theorem dX8_tightestNumber_14 : decode cX8_tightestNumber 14 = .ok (.ineg, 1) := by decide +kernel
theorem dX8_tightestNumber_15 : decode cX8_tightestNumber 15 = .ok (.invokestatic 353, 3) := by decide +kernel
theorem dX8_tightestNumber_18 : decode cX8_tightestNumber 18 = .ok (.istore 4, 2) := by decide +kernel
theorem dX8_tightestNumber_20 : decode cX8_tightestNumber 20 = .ok (.iload 4, 2) := by decide +kernel
theorem dX8_tightestNumber_22 : decode cX8_tightestNumber 22 = .ok (.sipush 999, 3) := by decide +kernel
theorem dX8_tightestNumber_25 : decode cX8_tightestNumber 25 = .ok (.if_icmp .gt 8, 3) := by decide +kernel
theorem dX8_tightestNumber_28 : decode cX8_tightestNumber 28 = .ok (.iload 4, 2) := by decide +kernel
theorem dX8_tightestNumber_30 : decode cX8_tightestNumber 30 = .ok (.goto 5, 3) := by decide +kernel
theorem dX8_tightestNumber_33 : decode cX8_tightestNumber 33 = .ok (.bipush (-2), 2) := by decide +kernel
theorem dX8_tightestNumber_35 : decode cX8_tightestNumber 35 = .ok (.ireturn, 1) := by decide +kernel
theorem dX8_tightestNumber_36 : decode cX8_tightestNumber 36 = .ok (.sipush 999, 3) := by decide +kernel
theorem dX8_tightestNumber_39 : decode cX8_tightestNumber 39 = .ok (.aload_n 0, 1) := by decide +kernel
theorem dX8_tightestNumber_40 : decode cX8_tightestNumber 40 = .ok (.getfield 19, 3) := by decide +kernel
theorem dX8_tightestNumber_43 : decode cX8_tightestNumber 43 = .ok (.iload_n 1, 1) := by decide +kernel
theorem dX8_tightestNumber_44 : decode cX8_tightestNumber 44 = .ok (.iload_n 2, 1) := by decide +kernel
theorem dX8_tightestNumber_45 : decode cX8_tightestNumber 45 = .ok (.invokevirtual 282, 3) := by decide +kernel
theorem dX8_tightestNumber_48 : decode cX8_tightestNumber 48 = .ok (.invokestatic 385, 3) := by decide +kernel
theorem dX8_tightestNumber_51 : decode cX8_tightestNumber 51 = .ok (.istore 4, 2) := by decide +kernel
theorem dX8_tightestNumber_53 : decode cX8_tightestNumber 53 = .ok (.iload 4, 2) := by decide +kernel
theorem dX8_tightestNumber_55 : decode cX8_tightestNumber 55 = .ok (.ifCond .lt 8, 3) := by decide +kernel
theorem dX8_tightestNumber_58 : decode cX8_tightestNumber 58 = .ok (.iload 4, 2) := by decide +kernel
theorem dX8_tightestNumber_60 : decode cX8_tightestNumber 60 = .ok (.goto 5, 3) := by decide +kernel
theorem dX8_tightestNumber_63 : decode cX8_tightestNumber 63 = .ok (.bipush (-2), 2) := by decide +kernel
theorem dX8_tightestNumber_65 : decode cX8_tightestNumber 65 = .ok (.ireturn, 1) := by decide +kernel
theorem dX8_countTight_0 : decode cX8_countTight 0 = .ok (.iconst 0, 1) := by decide +kernel
theorem dX8_countTight_1 : decode cX8_countTight 1 = .ok (.istore_n 1, 1) := by decide +kernel
theorem dX8_countTight_2 : decode cX8_countTight 2 = .ok (.iconst 0, 1) := by decide +kernel
theorem dX8_countTight_3 : decode cX8_countTight 3 = .ok (.istore_n 2, 1) := by decide +kernel
theorem dX8_countTight_4 : decode cX8_countTight 4 = .ok (.iload_n 2, 1) := by decide +kernel
theorem dX8_countTight_5 : decode cX8_countTight 5 = .ok (.aload_n 0, 1) := by decide +kernel
theorem dX8_countTight_6 : decode cX8_countTight 6 = .ok (.getfield 12, 3) := by decide +kernel
theorem dX8_countTight_9 : decode cX8_countTight 9 = .ok (.getfield 96, 3) := by decide +kernel
theorem dX8_countTight_12 : decode cX8_countTight 12 = .ok (.if_icmp .ge 20, 3) := by decide +kernel
theorem dX8_countTight_15 : decode cX8_countTight 15 = .ok (.iload_n 1, 1) := by decide +kernel
theorem dX8_countTight_16 : decode cX8_countTight 16 = .ok (.aload_n 0, 1) := by decide +kernel
theorem dX8_countTight_17 : decode cX8_countTight 17 = .ok (.iload_n 2, 1) := by decide +kernel
theorem dX8_countTight_18 : decode cX8_countTight 18 = .ok (.invokevirtual 261, 3) := by decide +kernel
theorem dX8_countTight_21 : decode cX8_countTight 21 = .ok (.invokestatic 159, 3) := by decide +kernel
theorem dX8_countTight_24 : decode cX8_countTight 24 = .ok (.iadd, 1) := by decide +kernel
theorem dX8_countTight_25 : decode cX8_countTight 25 = .ok (.istore_n 1, 1) := by decide +kernel
theorem dX8_countTight_26 : decode cX8_countTight 26 = .ok (.iinc 2 1, 3) := by decide +kernel
theorem dX8_countTight_29 : decode cX8_countTight 29 = .ok (.goto (-25), 3) := by decide +kernel
theorem dX8_countTight_32 : decode cX8_countTight 32 = .ok (.iload_n 1, 1) := by decide +kernel
theorem dX8_countTight_33 : decode cX8_countTight 33 = .ok (.ireturn, 1) := by decide +kernel
theorem dX8_countNeeded_0 : decode cX8_countNeeded 0 = .ok (.iconst 0, 1) := by decide +kernel
theorem dX8_countNeeded_1 : decode cX8_countNeeded 1 = .ok (.istore_n 1, 1) := by decide +kernel
theorem dX8_countNeeded_2 : decode cX8_countNeeded 2 = .ok (.iconst 0, 1) := by decide +kernel
theorem dX8_countNeeded_3 : decode cX8_countNeeded 3 = .ok (.istore_n 2, 1) := by decide +kernel
theorem dX8_countNeeded_4 : decode cX8_countNeeded 4 = .ok (.iload_n 2, 1) := by decide +kernel
theorem dX8_countNeeded_5 : decode cX8_countNeeded 5 = .ok (.aload_n 0, 1) := by decide +kernel
theorem dX8_countNeeded_6 : decode cX8_countNeeded 6 = .ok (.getfield 12, 3) := by decide +kernel
theorem dX8_countNeeded_9 : decode cX8_countNeeded 9 = .ok (.getfield 96, 3) := by decide +kernel
theorem dX8_countNeeded_12 : decode cX8_countNeeded 12 = .ok (.if_icmp .ge 20, 3) := by decide +kernel
theorem dX8_countNeeded_15 : decode cX8_countNeeded 15 = .ok (.iload_n 1, 1) := by decide +kernel
theorem dX8_countNeeded_16 : decode cX8_countNeeded 16 = .ok (.aload_n 0, 1) := by decide +kernel
theorem dX8_countNeeded_17 : decode cX8_countNeeded 17 = .ok (.iload_n 2, 1) := by decide +kernel
theorem dX8_countNeeded_18 : decode cX8_countNeeded 18 = .ok (.invokevirtual 264, 3) := by decide +kernel
theorem dX8_countNeeded_21 : decode cX8_countNeeded 21 = .ok (.invokestatic 159, 3) := by decide +kernel
theorem dX8_countNeeded_24 : decode cX8_countNeeded 24 = .ok (.iadd, 1) := by decide +kernel
theorem dX8_countNeeded_25 : decode cX8_countNeeded 25 = .ok (.istore_n 1, 1) := by decide +kernel
theorem dX8_countNeeded_26 : decode cX8_countNeeded 26 = .ok (.iinc 2 1, 3) := by decide +kernel
theorem dX8_countNeeded_29 : decode cX8_countNeeded 29 = .ok (.goto (-25), 3) := by decide +kernel
theorem dX8_countNeeded_32 : decode cX8_countNeeded 32 = .ok (.iload_n 1, 1) := by decide +kernel
theorem dX8_countNeeded_33 : decode cX8_countNeeded 33 = .ok (.ireturn, 1) := by decide +kernel
theorem dX8_firstNeedless_0 : decode cX8_firstNeedless 0 = .ok (.iload_n 1, 1) := by decide +kernel
theorem dX8_firstNeedless_1 : decode cX8_firstNeedless 1 = .ok (.istore_n 2, 1) := by decide +kernel
theorem dX8_firstNeedless_2 : decode cX8_firstNeedless 2 = .ok (.iload_n 2, 1) := by decide +kernel
theorem dX8_firstNeedless_3 : decode cX8_firstNeedless 3 = .ok (.aload_n 0, 1) := by decide +kernel
theorem dX8_firstNeedless_4 : decode cX8_firstNeedless 4 = .ok (.getfield 12, 3) := by decide +kernel
theorem dX8_firstNeedless_7 : decode cX8_firstNeedless 7 = .ok (.getfield 96, 3) := by decide +kernel
theorem dX8_firstNeedless_10 : decode cX8_firstNeedless 10 = .ok (.if_icmp .ge 31, 3) := by decide +kernel
theorem dX8_firstNeedless_13 : decode cX8_firstNeedless 13 = .ok (.aload_n 0, 1) := by decide +kernel
theorem dX8_firstNeedless_14 : decode cX8_firstNeedless 14 = .ok (.getfield 12, 3) := by decide +kernel
theorem dX8_firstNeedless_17 : decode cX8_firstNeedless 17 = .ok (.getfield 151, 3) := by decide +kernel
theorem dX8_firstNeedless_20 : decode cX8_firstNeedless 20 = .ok (.iload_n 2, 1) := by decide +kernel
theorem dX8_firstNeedless_21 : decode cX8_firstNeedless 21 = .ok (.baload, 1) := by decide +kernel
theorem dX8_firstNeedless_22 : decode cX8_firstNeedless 22 = .ok (.ifCond .eq 13, 3) := by decide +kernel
theorem dX8_firstNeedless_25 : decode cX8_firstNeedless 25 = .ok (.aload_n 0, 1) := by decide +kernel
theorem dX8_firstNeedless_26 : decode cX8_firstNeedless 26 = .ok (.iload_n 2, 1) := by decide +kernel
theorem dX8_firstNeedless_27 : decode cX8_firstNeedless 27 = .ok (.invokevirtual 264, 3) := by decide +kernel
theorem dX8_firstNeedless_30 : decode cX8_firstNeedless 30 = .ok (.ifCond .ne 5, 3) := by decide +kernel
theorem dX8_firstNeedless_33 : decode cX8_firstNeedless 33 = .ok (.iload_n 2, 1) := by decide +kernel
theorem dX8_firstNeedless_34 : decode cX8_firstNeedless 34 = .ok (.ireturn, 1) := by decide +kernel
theorem dX8_firstNeedless_35 : decode cX8_firstNeedless 35 = .ok (.iinc 2 1, 3) := by decide +kernel
theorem dX8_firstNeedless_38 : decode cX8_firstNeedless 38 = .ok (.goto (-36), 3) := by decide +kernel
theorem dX8_firstNeedless_41 : decode cX8_firstNeedless 41 = .ok (.bipush (-2), 2) := by decide +kernel
theorem dX8_firstNeedless_43 : decode cX8_firstNeedless 43 = .ok (.ireturn, 1) := by decide +kernel
theorem dX8_relationOf_0 : decode cX8_relationOf 0 = .ok (.aload_n 0, 1) := by decide +kernel
theorem dX8_relationOf_1 : decode cX8_relationOf 1 = .ok (.getfield 19, 3) := by decide +kernel
theorem dX8_relationOf_4 : decode cX8_relationOf 4 = .ok (.iload_n 1, 1) := by decide +kernel
theorem dX8_relationOf_5 : decode cX8_relationOf 5 = .ok (.iload_n 2, 1) := by decide +kernel
theorem dX8_relationOf_6 : decode cX8_relationOf 6 = .ok (.invokevirtual 282, 3) := by decide +kernel
theorem dX8_relationOf_9 : decode cX8_relationOf 9 = .ok (.istore_n 3, 1) := by decide +kernel
theorem dX8_relationOf_10 : decode cX8_relationOf 10 = .ok (.aload_n 0, 1) := by decide +kernel
theorem dX8_relationOf_11 : decode cX8_relationOf 11 = .ok (.getfield 19, 3) := by decide +kernel
theorem dX8_relationOf_14 : decode cX8_relationOf 14 = .ok (.iload_n 2, 1) := by decide +kernel
theorem dX8_relationOf_15 : decode cX8_relationOf 15 = .ok (.iload_n 1, 1) := by decide +kernel
theorem dX8_relationOf_16 : decode cX8_relationOf 16 = .ok (.invokevirtual 282, 3) := by decide +kernel
theorem dX8_relationOf_19 : decode cX8_relationOf 19 = .ok (.ineg, 1) := by decide +kernel
theorem dX8_relationOf_20 : decode cX8_relationOf 20 = .ok (.istore 4, 2) := by decide +kernel
theorem dX8_relationOf_22 : decode cX8_relationOf 22 = .ok (.iload 4, 2) := by decide +kernel
theorem dX8_relationOf_24 : decode cX8_relationOf 24 = .ok (.ifCond .ne 9, 3) := by decide +kernel
theorem dX8_relationOf_27 : decode cX8_relationOf 27 = .ok (.iload_n 3, 1) := by decide +kernel
theorem dX8_relationOf_28 : decode cX8_relationOf 28 = .ok (.ifCond .ne 5, 3) := by decide +kernel
theorem dX8_relationOf_31 : decode cX8_relationOf 31 = .ok (.iconst 0, 1) := by decide +kernel
theorem dX8_relationOf_32 : decode cX8_relationOf 32 = .ok (.ireturn, 1) := by decide +kernel
theorem dX8_relationOf_33 : decode cX8_relationOf 33 = .ok (.iload 4, 2) := by decide +kernel
theorem dX8_relationOf_35 : decode cX8_relationOf 35 = .ok (.ifCond .le 5, 3) := by decide +kernel
theorem dX8_relationOf_38 : decode cX8_relationOf 38 = .ok (.iconst 1, 1) := by decide +kernel
theorem dX8_relationOf_39 : decode cX8_relationOf 39 = .ok (.ireturn, 1) := by decide +kernel
theorem dX8_relationOf_40 : decode cX8_relationOf 40 = .ok (.iload_n 3, 1) := by decide +kernel
theorem dX8_relationOf_41 : decode cX8_relationOf 41 = .ok (.ifCond .ge 5, 3) := by decide +kernel
theorem dX8_relationOf_44 : decode cX8_relationOf 44 = .ok (.iconst 2, 1) := by decide +kernel
theorem dX8_relationOf_45 : decode cX8_relationOf 45 = .ok (.ireturn, 1) := by decide +kernel
theorem dX8_relationOf_46 : decode cX8_relationOf 46 = .ok (.iload 4, 2) := by decide +kernel
theorem dX8_relationOf_48 : decode cX8_relationOf 48 = .ok (.ifCond .ne 5, 3) := by decide +kernel
theorem dX8_relationOf_51 : decode cX8_relationOf 51 = .ok (.iconst 3, 1) := by decide +kernel
theorem dX8_relationOf_52 : decode cX8_relationOf 52 = .ok (.ireturn, 1) := by decide +kernel
theorem dX8_relationOf_53 : decode cX8_relationOf 53 = .ok (.iload_n 3, 1) := by decide +kernel
theorem dX8_relationOf_54 : decode cX8_relationOf 54 = .ok (.ifCond .ne 7, 3) := by decide +kernel
theorem dX8_relationOf_57 : decode cX8_relationOf 57 = .ok (.iconst 4, 1) := by decide +kernel
theorem dX8_relationOf_58 : decode cX8_relationOf 58 = .ok (.goto 4, 3) := by decide +kernel
theorem dX8_relationOf_61 : decode cX8_relationOf 61 = .ok (.iconst 5, 1) := by decide +kernel
theorem dX8_relationOf_62 : decode cX8_relationOf 62 = .ok (.ireturn, 1) := by decide +kernel
theorem dX8_stepOfRing_0 : decode cX8_stepOfRing 0 = .ok (.aload_n 0, 1) := by decide +kernel
theorem dX8_stepOfRing_1 : decode cX8_stepOfRing 1 = .ok (.getfield 19, 3) := by decide +kernel
theorem dX8_stepOfRing_4 : decode cX8_stepOfRing 4 = .ok (.iload_n 1, 1) := by decide +kernel
theorem dX8_stepOfRing_5 : decode cX8_stepOfRing 5 = .ok (.iload_n 2, 1) := by decide +kernel
theorem dX8_stepOfRing_6 : decode cX8_stepOfRing 6 = .ok (.iload_n 3, 1) := by decide +kernel
theorem dX8_stepOfRing_7 : decode cX8_stepOfRing 7 = .ok (.invokestatic 379, 3) := by decide +kernel
theorem dX8_stepOfRing_10 : decode cX8_stepOfRing 10 = .ok (.iload_n 1, 1) := by decide +kernel
theorem dX8_stepOfRing_11 : decode cX8_stepOfRing 11 = .ok (.iload_n 2, 1) := by decide +kernel
theorem dX8_stepOfRing_12 : decode cX8_stepOfRing 12 = .ok (.iload_n 3, 1) := by decide +kernel
theorem dX8_stepOfRing_13 : decode cX8_stepOfRing 13 = .ok (.invokestatic 376, 3) := by decide +kernel
theorem dX8_stepOfRing_16 : decode cX8_stepOfRing 16 = .ok (.iload 4, 2) := by decide +kernel
theorem dX8_stepOfRing_18 : decode cX8_stepOfRing 18 = .ok (.invokevirtual 289, 3) := by decide +kernel
theorem dX8_stepOfRing_21 : decode cX8_stepOfRing 21 = .ok (.ireturn, 1) := by decide +kernel
theorem dX8_tryWithout_0 : decode cX8_tryWithout 0 = .ok (.aload_n 0, 1) := by decide +kernel
theorem dX8_tryWithout_1 : decode cX8_tryWithout 1 = .ok (.iload_n 1, 1) := by decide +kernel
theorem dX8_tryWithout_2 : decode cX8_tryWithout 2 = .ok (.invokevirtual 261, 3) := by decide +kernel
theorem dX8_tryWithout_5 : decode cX8_tryWithout 5 = .ok (.ifCond .eq 18, 3) := by decide +kernel
theorem dX8_tryWithout_8 : decode cX8_tryWithout 8 = .ok (.aload_n 0, 1) := by decide +kernel
theorem dX8_tryWithout_9 : decode cX8_tryWithout 9 = .ok (.getfield 23, 3) := by decide +kernel
theorem dX8_tryWithout_12 : decode cX8_tryWithout 12 = .ok (.aload_n 0, 1) := by decide +kernel
theorem dX8_tryWithout_13 : decode cX8_tryWithout 13 = .ok (.getfield 12, 3) := by decide +kernel
theorem dX8_tryWithout_16 : decode cX8_tryWithout 16 = .ok (.iload_n 1, 1) := by decide +kernel
theorem dX8_tryWithout_17 : decode cX8_tryWithout 17 = .ok (.invokevirtual 66, 3) := by decide +kernel
theorem dX8_tryWithout_20 : decode cX8_tryWithout 20 = .ok (.goto 14, 3) := by decide +kernel
theorem dX8_tryWithout_23 : decode cX8_tryWithout 23 = .ok (.aload_n 0, 1) := by decide +kernel
theorem dX8_tryWithout_24 : decode cX8_tryWithout 24 = .ok (.getfield 23, 3) := by decide +kernel
theorem dX8_tryWithout_27 : decode cX8_tryWithout 27 = .ok (.aload_n 0, 1) := by decide +kernel
theorem dX8_tryWithout_28 : decode cX8_tryWithout 28 = .ok (.getfield 19, 3) := by decide +kernel
theorem dX8_tryWithout_31 : decode cX8_tryWithout 31 = .ok (.invokevirtual 308, 3) := by decide +kernel
theorem dX8_tryWithout_34 : decode cX8_tryWithout 34 = .ok (.return_, 1) := by decide +kernel
theorem dX8_changeOnTrial_0 : decode cX8_changeOnTrial 0 = .ok (.iload_n 1, 1) := by decide +kernel
theorem dX8_changeOnTrial_1 : decode cX8_changeOnTrial 1 = .ok (.lookupswitch 51 #[(0, 27), (1, 39)], 27) := by decide +kernel
theorem dX8_changeOnTrial_28 : decode cX8_changeOnTrial 28 = .ok (.aload_n 0, 1) := by decide +kernel
theorem dX8_changeOnTrial_29 : decode cX8_changeOnTrial 29 = .ok (.getfield 19, 3) := by decide +kernel
theorem dX8_changeOnTrial_32 : decode cX8_changeOnTrial 32 = .ok (.aload_n 0, 1) := by decide +kernel
theorem dX8_changeOnTrial_33 : decode cX8_changeOnTrial 33 = .ok (.getfield 23, 3) := by decide +kernel
theorem dX8_changeOnTrial_36 : decode cX8_changeOnTrial 36 = .ok (.invokevirtual 388, 3) := by decide +kernel
theorem dX8_changeOnTrial_39 : decode cX8_changeOnTrial 39 = .ok (.ireturn, 1) := by decide +kernel
theorem dX8_changeOnTrial_40 : decode cX8_changeOnTrial 40 = .ok (.aload_n 0, 1) := by decide +kernel
theorem dX8_changeOnTrial_41 : decode cX8_changeOnTrial 41 = .ok (.getfield 19, 3) := by decide +kernel
theorem dX8_changeOnTrial_44 : decode cX8_changeOnTrial 44 = .ok (.aload_n 0, 1) := by decide +kernel
theorem dX8_changeOnTrial_45 : decode cX8_changeOnTrial 45 = .ok (.getfield 23, 3) := by decide +kernel
theorem dX8_changeOnTrial_48 : decode cX8_changeOnTrial 48 = .ok (.invokevirtual 392, 3) := by decide +kernel
theorem dX8_changeOnTrial_51 : decode cX8_changeOnTrial 51 = .ok (.ireturn, 1) := by decide +kernel
theorem dX8_changeOnTrial_52 : decode cX8_changeOnTrial 52 = .ok (.aload_n 0, 1) := by decide +kernel
theorem dX8_changeOnTrial_53 : decode cX8_changeOnTrial 53 = .ok (.getfield 23, 3) := by decide +kernel
theorem dX8_changeOnTrial_56 : decode cX8_changeOnTrial 56 = .ok (.invokevirtual 214, 3) := by decide +kernel
theorem dX8_changeOnTrial_59 : decode cX8_changeOnTrial 59 = .ok (.ireturn, 1) := by decide +kernel
theorem dX8_stepBegin_0 : decode cX8_stepBegin 0 = .ok (.iload_n 2, 1) := by decide +kernel
theorem dX8_stepBegin_1 : decode cX8_stepBegin 1 = .ok (.ifCond .ne 7, 3) := by decide +kernel
theorem dX8_stepBegin_4 : decode cX8_stepBegin 4 = .ok (.iload_n 0, 1) := by decide +kernel
theorem dX8_stepBegin_5 : decode cX8_stepBegin 5 = .ok (.goto 4, 3) := by decide +kernel
theorem dX8_stepBegin_8 : decode cX8_stepBegin 8 = .ok (.iload_n 1, 1) := by decide +kernel
theorem dX8_stepBegin_9 : decode cX8_stepBegin 9 = .ok (.ireturn, 1) := by decide +kernel
theorem dX8_stepFinish_0 : decode cX8_stepFinish 0 = .ok (.iload_n 2, 1) := by decide +kernel
theorem dX8_stepFinish_1 : decode cX8_stepFinish 1 = .ok (.ifCond .ne 7, 3) := by decide +kernel
theorem dX8_stepFinish_4 : decode cX8_stepFinish 4 = .ok (.iload_n 1, 1) := by decide +kernel
theorem dX8_stepFinish_5 : decode cX8_stepFinish 5 = .ok (.goto 4, 3) := by decide +kernel
theorem dX8_stepFinish_8 : decode cX8_stepFinish 8 = .ok (.iload_n 0, 1) := by decide +kernel
theorem dX8_stepFinish_9 : decode cX8_stepFinish 9 = .ok (.ireturn, 1) := by decide +kernel
theorem dX8_stepLength_0 : decode cX8_stepLength 0 = .ok (.iload_n 0, 1) := by decide +kernel
theorem dX8_stepLength_1 : decode cX8_stepLength 1 = .ok (.ifCond .ne 7, 3) := by decide +kernel
theorem dX8_stepLength_4 : decode cX8_stepLength 4 = .ok (.iload_n 1, 1) := by decide +kernel
theorem dX8_stepLength_5 : decode cX8_stepLength 5 = .ok (.goto 5, 3) := by decide +kernel
theorem dX8_stepLength_8 : decode cX8_stepLength 8 = .ok (.iload_n 1, 1) := by decide +kernel
theorem dX8_stepLength_9 : decode cX8_stepLength 9 = .ok (.ineg, 1) := by decide +kernel
theorem dX8_stepLength_10 : decode cX8_stepLength 10 = .ok (.ireturn, 1) := by decide +kernel
theorem dJ5_init_d00df_0 : decode cJ5_init_d00df 0 = .ok (.aload_n 0, 1) := by decide +kernel
theorem dJ5_init_d00df_1 : decode cJ5_init_d00df 1 = .ok (.invokespecial 3, 3) := by decide +kernel
theorem dJ5_init_d00df_4 : decode cJ5_init_d00df 4 = .ok (.getstatic 18, 3) := by decide +kernel
theorem dJ5_init_d00df_7 : decode cJ5_init_d00df 7 = .ok (.ifCond .eq 18, 3) := by decide +kernel
theorem dJ5_init_d00df_10 : decode cJ5_init_d00df 10 = .ok (.aload_n 0, 1) := by decide +kernel
theorem dJ5_init_d00df_11 : decode cJ5_init_d00df 11 = .ok (.iload_n 1, 1) := by decide +kernel
theorem dJ5_init_d00df_12 : decode cJ5_init_d00df 12 = .ok (.newarray .byte, 2) := by decide +kernel
theorem dJ5_init_d00df_14 : decode cJ5_init_d00df 14 = .ok (.putfield 15, 3) := by decide +kernel
theorem dJ5_init_d00df_17 : decode cJ5_init_d00df 17 = .ok (.aload_n 0, 1) := by decide +kernel
theorem dJ5_init_d00df_18 : decode cJ5_init_d00df 18 = .ok (.iconst 0, 1) := by decide +kernel
theorem dJ5_init_d00df_19 : decode cJ5_init_d00df 19 = .ok (.putfield 22, 3) := by decide +kernel
theorem dJ5_init_d00df_22 : decode cJ5_init_d00df 22 = .ok (.goto 16, 3) := by decide +kernel
theorem dJ5_init_d00df_25 : decode cJ5_init_d00df 25 = .ok (.aload_n 0, 1) := by decide +kernel
theorem dJ5_init_d00df_26 : decode cJ5_init_d00df 26 = .ok (.iload_n 1, 1) := by decide +kernel
theorem dJ5_init_d00df_27 : decode cJ5_init_d00df 27 = .ok (.invokestatic 26, 3) := by decide +kernel
theorem dJ5_init_d00df_30 : decode cJ5_init_d00df 30 = .ok (.putfield 15, 3) := by decide +kernel
theorem dJ5_init_d00df_33 : decode cJ5_init_d00df 33 = .ok (.aload_n 0, 1) := by decide +kernel
theorem dJ5_init_d00df_34 : decode cJ5_init_d00df 34 = .ok (.iconst 1, 1) := by decide +kernel
theorem dJ5_init_d00df_35 : decode cJ5_init_d00df 35 = .ok (.putfield 22, 3) := by decide +kernel
theorem dJ5_init_d00df_38 : decode cJ5_init_d00df 38 = .ok (.return_, 1) := by decide +kernel
theorem dJ5_init_a7421_0 : decode cJ5_init_a7421 0 = .ok (.aload_n 0, 1) := by decide +kernel
theorem dJ5_init_a7421_1 : decode cJ5_init_a7421 1 = .ok (.invokespecial 3, 3) := by decide +kernel
theorem dJ5_init_a7421_4 : decode cJ5_init_a7421 4 = .ok (.aload_n 1, 1) := by decide +kernel
theorem dJ5_init_a7421_5 : decode cJ5_init_a7421 5 = .ok (.invokevirtual 32, 3) := by decide +kernel
theorem dJ5_init_a7421_8 : decode cJ5_init_a7421 8 = .ok (.istore_n 2, 1) := by decide +kernel
theorem dJ5_init_a7421_9 : decode cJ5_init_a7421 9 = .ok (.iload_n 2, 1) := by decide +kernel
theorem dJ5_init_a7421_10 : decode cJ5_init_a7421 10 = .ok (.ldc 38, 2) := by decide +kernel
theorem dJ5_init_a7421_12 : decode cJ5_init_a7421 12 = .ok (.if_icmp .ge 10, 3) := by decide +kernel
theorem dJ5_init_a7421_15 : decode cJ5_init_a7421 15 = .ok (.iload_n 2, 1) := by decide +kernel
theorem dJ5_init_a7421_16 : decode cJ5_init_a7421 16 = .ok (.bipush 16, 2) := by decide +kernel
theorem dJ5_init_a7421_18 : decode cJ5_init_a7421 18 = .ok (.iadd, 1) := by decide +kernel
theorem dJ5_init_a7421_19 : decode cJ5_init_a7421 19 = .ok (.goto 5, 3) := by decide +kernel
theorem dJ5_init_a7421_22 : decode cJ5_init_a7421 22 = .ok (.ldc 39, 2) := by decide +kernel
theorem dJ5_init_a7421_24 : decode cJ5_init_a7421 24 = .ok (.istore_n 3, 1) := by decide +kernel
theorem dJ5_init_a7421_25 : decode cJ5_init_a7421 25 = .ok (.aload_n 1, 1) := by decide +kernel
theorem dJ5_init_a7421_26 : decode cJ5_init_a7421 26 = .ok (.invokevirtual 40, 3) := by decide +kernel
theorem dJ5_init_a7421_29 : decode cJ5_init_a7421 29 = .ok (.istore 4, 2) := by decide +kernel
theorem dJ5_init_a7421_31 : decode cJ5_init_a7421 31 = .ok (.aload_n 0, 1) := by decide +kernel
theorem dJ5_init_a7421_32 : decode cJ5_init_a7421 32 = .ok (.iload 4, 2) := by decide +kernel
theorem dJ5_init_a7421_34 : decode cJ5_init_a7421 34 = .ok (.putfield 22, 3) := by decide +kernel
theorem dJ5_init_a7421_37 : decode cJ5_init_a7421 37 = .ok (.aload_n 0, 1) := by decide +kernel
theorem dJ5_init_a7421_38 : decode cJ5_init_a7421 38 = .ok (.iload 4, 2) := by decide +kernel
theorem dJ5_init_a7421_40 : decode cJ5_init_a7421 40 = .ok (.ifCond .ne 9, 3) := by decide +kernel
theorem dJ5_init_a7421_43 : decode cJ5_init_a7421 43 = .ok (.iload_n 3, 1) := by decide +kernel
theorem dJ5_init_a7421_44 : decode cJ5_init_a7421 44 = .ok (.newarray .byte, 2) := by decide +kernel
theorem dJ5_init_a7421_46 : decode cJ5_init_a7421 46 = .ok (.goto 7, 3) := by decide +kernel
theorem dJ5_init_a7421_49 : decode cJ5_init_a7421 49 = .ok (.iload_n 3, 1) := by decide +kernel
theorem dJ5_init_a7421_50 : decode cJ5_init_a7421 50 = .ok (.invokestatic 26, 3) := by decide +kernel
theorem dJ5_init_a7421_53 : decode cJ5_init_a7421 53 = .ok (.putfield 15, 3) := by decide +kernel
theorem dJ5_init_a7421_56 : decode cJ5_init_a7421 56 = .ok (.aload_n 0, 1) := by decide +kernel
theorem dJ5_init_a7421_57 : decode cJ5_init_a7421 57 = .ok (.aload_n 1, 1) := by decide +kernel
theorem dJ5_init_a7421_58 : decode cJ5_init_a7421 58 = .ok (.invokevirtual 43, 3) := by decide +kernel
theorem dJ5_init_a7421_61 : decode cJ5_init_a7421 61 = .ok (.pop, 1) := by decide +kernel
theorem dJ5_init_a7421_62 : decode cJ5_init_a7421 62 = .ok (.return_, 1) := by decide +kernel
theorem dJ5_length_8abf5_0 : decode cJ5_length_8abf5 0 = .ok (.aload_n 0, 1) := by decide +kernel
theorem dJ5_length_8abf5_1 : decode cJ5_length_8abf5 1 = .ok (.getfield 79, 3) := by decide +kernel
theorem dJ5_length_8abf5_4 : decode cJ5_length_8abf5 4 = .ok (.ireturn, 1) := by decide +kernel
theorem dJ5_ensureCapacityInternal_d00df_0 : decode cJ5_ensureCapacityInternal_d00df 0 = .ok (.aload_n 0, 1) := by decide +kernel
theorem dJ5_ensureCapacityInternal_d00df_1 : decode cJ5_ensureCapacityInternal_d00df 1 = .ok (.getfield 15, 3) := by decide +kernel
theorem dJ5_ensureCapacityInternal_d00df_4 : decode cJ5_ensureCapacityInternal_d00df 4 = .ok (.arraylength, 1) := by decide +kernel
theorem dJ5_ensureCapacityInternal_d00df_5 : decode cJ5_ensureCapacityInternal_d00df 5 = .ok (.aload_n 0, 1) := by decide +kernel
theorem dJ5_ensureCapacityInternal_d00df_6 : decode cJ5_ensureCapacityInternal_d00df 6 = .ok (.getfield 22, 3) := by decide +kernel
theorem dJ5_ensureCapacityInternal_d00df_9 : decode cJ5_ensureCapacityInternal_d00df 9 = .ok (.ishr, 1) := by decide +kernel
theorem dJ5_ensureCapacityInternal_d00df_10 : decode cJ5_ensureCapacityInternal_d00df 10 = .ok (.istore_n 2, 1) := by decide +kernel
theorem dJ5_ensureCapacityInternal_d00df_11 : decode cJ5_ensureCapacityInternal_d00df 11 = .ok (.iload_n 1, 1) := by decide +kernel
theorem dJ5_ensureCapacityInternal_d00df_12 : decode cJ5_ensureCapacityInternal_d00df 12 = .ok (.iload_n 2, 1) := by decide +kernel
theorem dJ5_ensureCapacityInternal_d00df_13 : decode cJ5_ensureCapacityInternal_d00df 13 = .ok (.isub, 1) := by decide +kernel
theorem dJ5_ensureCapacityInternal_d00df_14 : decode cJ5_ensureCapacityInternal_d00df 14 = .ok (.ifCond .le 24, 3) := by decide +kernel
theorem dJ5_ensureCapacityInternal_d00df_17 : decode cJ5_ensureCapacityInternal_d00df 17 = .ok (.aload_n 0, 1) := by decide +kernel
theorem dJ5_ensureCapacityInternal_d00df_18 : decode cJ5_ensureCapacityInternal_d00df 18 = .ok (.aload_n 0, 1) := by decide +kernel
theorem dJ5_ensureCapacityInternal_d00df_19 : decode cJ5_ensureCapacityInternal_d00df 19 = .ok (.getfield 15, 3) := by decide +kernel
theorem dJ5_ensureCapacityInternal_d00df_22 : decode cJ5_ensureCapacityInternal_d00df 22 = .ok (.aload_n 0, 1) := by decide +kernel
theorem dJ5_ensureCapacityInternal_d00df_23 : decode cJ5_ensureCapacityInternal_d00df 23 = .ok (.iload_n 1, 1) := by decide +kernel
theorem dJ5_ensureCapacityInternal_d00df_24 : decode cJ5_ensureCapacityInternal_d00df 24 = .ok (.invokevirtual 104, 3) := by decide +kernel
theorem dJ5_ensureCapacityInternal_d00df_27 : decode cJ5_ensureCapacityInternal_d00df 27 = .ok (.aload_n 0, 1) := by decide +kernel
theorem dJ5_ensureCapacityInternal_d00df_28 : decode cJ5_ensureCapacityInternal_d00df 28 = .ok (.getfield 22, 3) := by decide +kernel
theorem dJ5_ensureCapacityInternal_d00df_31 : decode cJ5_ensureCapacityInternal_d00df 31 = .ok (.ishl, 1) := by decide +kernel
theorem dJ5_ensureCapacityInternal_d00df_32 : decode cJ5_ensureCapacityInternal_d00df 32 = .ok (.invokestatic 108, 3) := by decide +kernel
theorem dJ5_ensureCapacityInternal_d00df_35 : decode cJ5_ensureCapacityInternal_d00df 35 = .ok (.putfield 15, 3) := by decide +kernel
theorem dJ5_ensureCapacityInternal_d00df_38 : decode cJ5_ensureCapacityInternal_d00df 38 = .ok (.return_, 1) := by decide +kernel
theorem dJ5_newCapacity_0f7a4_0 : decode cJ5_newCapacity_0f7a4 0 = .ok (.aload_n 0, 1) := by decide +kernel
theorem dJ5_newCapacity_0f7a4_1 : decode cJ5_newCapacity_0f7a4 1 = .ok (.getfield 15, 3) := by decide +kernel
theorem dJ5_newCapacity_0f7a4_4 : decode cJ5_newCapacity_0f7a4 4 = .ok (.arraylength, 1) := by decide +kernel
theorem dJ5_newCapacity_0f7a4_5 : decode cJ5_newCapacity_0f7a4 5 = .ok (.istore_n 2, 1) := by decide +kernel
theorem dJ5_newCapacity_0f7a4_6 : decode cJ5_newCapacity_0f7a4 6 = .ok (.iload_n 1, 1) := by decide +kernel
theorem dJ5_newCapacity_0f7a4_7 : decode cJ5_newCapacity_0f7a4 7 = .ok (.aload_n 0, 1) := by decide +kernel
theorem dJ5_newCapacity_0f7a4_8 : decode cJ5_newCapacity_0f7a4 8 = .ok (.getfield 22, 3) := by decide +kernel
theorem dJ5_newCapacity_0f7a4_11 : decode cJ5_newCapacity_0f7a4 11 = .ok (.ishl, 1) := by decide +kernel
theorem dJ5_newCapacity_0f7a4_12 : decode cJ5_newCapacity_0f7a4 12 = .ok (.istore_n 3, 1) := by decide +kernel
theorem dJ5_newCapacity_0f7a4_13 : decode cJ5_newCapacity_0f7a4 13 = .ok (.iload_n 3, 1) := by decide +kernel
theorem dJ5_newCapacity_0f7a4_14 : decode cJ5_newCapacity_0f7a4 14 = .ok (.iload_n 2, 1) := by decide +kernel
theorem dJ5_newCapacity_0f7a4_15 : decode cJ5_newCapacity_0f7a4 15 = .ok (.isub, 1) := by decide +kernel
theorem dJ5_newCapacity_0f7a4_16 : decode cJ5_newCapacity_0f7a4 16 = .ok (.istore 4, 2) := by decide +kernel
theorem dJ5_newCapacity_0f7a4_18 : decode cJ5_newCapacity_0f7a4 18 = .ok (.iload_n 2, 1) := by decide +kernel
theorem dJ5_newCapacity_0f7a4_19 : decode cJ5_newCapacity_0f7a4 19 = .ok (.iload 4, 2) := by decide +kernel
theorem dJ5_newCapacity_0f7a4_21 : decode cJ5_newCapacity_0f7a4 21 = .ok (.iload_n 2, 1) := by decide +kernel
theorem dJ5_newCapacity_0f7a4_22 : decode cJ5_newCapacity_0f7a4 22 = .ok (.iconst 2, 1) := by decide +kernel
theorem dJ5_newCapacity_0f7a4_23 : decode cJ5_newCapacity_0f7a4 23 = .ok (.aload_n 0, 1) := by decide +kernel
theorem dJ5_newCapacity_0f7a4_24 : decode cJ5_newCapacity_0f7a4 24 = .ok (.getfield 22, 3) := by decide +kernel
theorem dJ5_newCapacity_0f7a4_27 : decode cJ5_newCapacity_0f7a4 27 = .ok (.ishl, 1) := by decide +kernel
theorem dJ5_newCapacity_0f7a4_28 : decode cJ5_newCapacity_0f7a4 28 = .ok (.iadd, 1) := by decide +kernel
theorem dJ5_newCapacity_0f7a4_29 : decode cJ5_newCapacity_0f7a4 29 = .ok (.invokestatic 114, 3) := by decide +kernel
theorem dJ5_newCapacity_0f7a4_32 : decode cJ5_newCapacity_0f7a4 32 = .ok (.istore 5, 2) := by decide +kernel
theorem dJ5_newCapacity_0f7a4_34 : decode cJ5_newCapacity_0f7a4 34 = .ok (.iload 5, 2) := by decide +kernel
theorem dJ5_newCapacity_0f7a4_36 : decode cJ5_newCapacity_0f7a4 36 = .ok (.ldc 39, 2) := by decide +kernel
theorem dJ5_newCapacity_0f7a4_38 : decode cJ5_newCapacity_0f7a4 38 = .ok (.if_icmp .ne 13, 3) := by decide +kernel
theorem dJ5_newCapacity_0f7a4_41 : decode cJ5_newCapacity_0f7a4 41 = .ok (.new 120, 3) := by decide +kernel
theorem dJ5_newCapacity_0f7a4_44 : decode cJ5_newCapacity_0f7a4 44 = .ok (.dup, 1) := by decide +kernel
theorem dJ5_newCapacity_0f7a4_45 : decode cJ5_newCapacity_0f7a4 45 = .ok (.ldc 122, 2) := by decide +kernel
theorem dJ5_newCapacity_0f7a4_47 : decode cJ5_newCapacity_0f7a4 47 = .ok (.invokespecial 124, 3) := by decide +kernel
theorem dJ5_newCapacity_0f7a4_50 : decode cJ5_newCapacity_0f7a4 50 = .ok (.athrow, 1) := by decide +kernel
theorem dJ5_newCapacity_0f7a4_51 : decode cJ5_newCapacity_0f7a4 51 = .ok (.iload 5, 2) := by decide +kernel
theorem dJ5_newCapacity_0f7a4_53 : decode cJ5_newCapacity_0f7a4 53 = .ok (.aload_n 0, 1) := by decide +kernel
theorem dJ5_newCapacity_0f7a4_54 : decode cJ5_newCapacity_0f7a4 54 = .ok (.getfield 22, 3) := by decide +kernel
theorem dJ5_newCapacity_0f7a4_57 : decode cJ5_newCapacity_0f7a4 57 = .ok (.ishr, 1) := by decide +kernel
theorem dJ5_newCapacity_0f7a4_58 : decode cJ5_newCapacity_0f7a4 58 = .ok (.ireturn, 1) := by decide +kernel
theorem dJ5_inflate_da8c8_0 : decode cJ5_inflate_da8c8 0 = .ok (.aload_n 0, 1) := by decide +kernel
theorem dJ5_inflate_da8c8_1 : decode cJ5_inflate_da8c8 1 = .ok (.invokevirtual 83, 3) := by decide +kernel
theorem dJ5_inflate_da8c8_4 : decode cJ5_inflate_da8c8 4 = .ok (.ifCond .ne 4, 3) := by decide +kernel
theorem dJ5_inflate_da8c8_7 : decode cJ5_inflate_da8c8 7 = .ok (.return_, 1) := by decide +kernel
theorem dJ5_inflate_da8c8_8 : decode cJ5_inflate_da8c8 8 = .ok (.aload_n 0, 1) := by decide +kernel
theorem dJ5_inflate_da8c8_9 : decode cJ5_inflate_da8c8 9 = .ok (.getfield 15, 3) := by decide +kernel
theorem dJ5_inflate_da8c8_12 : decode cJ5_inflate_da8c8 12 = .ok (.arraylength, 1) := by decide +kernel
theorem dJ5_inflate_da8c8_13 : decode cJ5_inflate_da8c8 13 = .ok (.invokestatic 26, 3) := by decide +kernel
theorem dJ5_inflate_da8c8_16 : decode cJ5_inflate_da8c8 16 = .ok (.astore_n 1, 1) := by decide +kernel
theorem dJ5_inflate_da8c8_17 : decode cJ5_inflate_da8c8 17 = .ok (.aload_n 0, 1) := by decide +kernel
theorem dJ5_inflate_da8c8_18 : decode cJ5_inflate_da8c8 18 = .ok (.getfield 15, 3) := by decide +kernel
theorem dJ5_inflate_da8c8_21 : decode cJ5_inflate_da8c8 21 = .ok (.iconst 0, 1) := by decide +kernel
theorem dJ5_inflate_da8c8_22 : decode cJ5_inflate_da8c8 22 = .ok (.aload_n 1, 1) := by decide +kernel
theorem dJ5_inflate_da8c8_23 : decode cJ5_inflate_da8c8 23 = .ok (.iconst 0, 1) := by decide +kernel
theorem dJ5_inflate_da8c8_24 : decode cJ5_inflate_da8c8 24 = .ok (.aload_n 0, 1) := by decide +kernel
theorem dJ5_inflate_da8c8_25 : decode cJ5_inflate_da8c8 25 = .ok (.getfield 79, 3) := by decide +kernel
theorem dJ5_inflate_da8c8_28 : decode cJ5_inflate_da8c8 28 = .ok (.invokestatic 125, 3) := by decide +kernel
theorem dJ5_inflate_da8c8_31 : decode cJ5_inflate_da8c8 31 = .ok (.aload_n 0, 1) := by decide +kernel
theorem dJ5_inflate_da8c8_32 : decode cJ5_inflate_da8c8 32 = .ok (.aload_n 1, 1) := by decide +kernel
theorem dJ5_inflate_da8c8_33 : decode cJ5_inflate_da8c8 33 = .ok (.putfield 15, 3) := by decide +kernel
theorem dJ5_inflate_da8c8_36 : decode cJ5_inflate_da8c8 36 = .ok (.aload_n 0, 1) := by decide +kernel
theorem dJ5_inflate_da8c8_37 : decode cJ5_inflate_da8c8 37 = .ok (.iconst 1, 1) := by decide +kernel
theorem dJ5_inflate_da8c8_38 : decode cJ5_inflate_da8c8 38 = .ok (.putfield 22, 3) := by decide +kernel
theorem dJ5_inflate_da8c8_41 : decode cJ5_inflate_da8c8 41 = .ok (.return_, 1) := by decide +kernel
theorem dJ5_append_cf1ce_0 : decode cJ5_append_cf1ce 0 = .ok (.aload_n 1, 1) := by decide +kernel
theorem dJ5_append_cf1ce_1 : decode cJ5_append_cf1ce 1 = .ok (.ifnonnull 8, 3) := by decide +kernel
theorem dJ5_append_cf1ce_4 : decode cJ5_append_cf1ce 4 = .ok (.aload_n 0, 1) := by decide +kernel
theorem dJ5_append_cf1ce_5 : decode cJ5_append_cf1ce 5 = .ok (.invokevirtual 204, 3) := by decide +kernel
theorem dJ5_append_cf1ce_8 : decode cJ5_append_cf1ce 8 = .ok (.areturn, 1) := by decide +kernel
theorem dJ5_append_cf1ce_9 : decode cJ5_append_cf1ce 9 = .ok (.aload_n 1, 1) := by decide +kernel
theorem dJ5_append_cf1ce_10 : decode cJ5_append_cf1ce 10 = .ok (.invokevirtual 32, 3) := by decide +kernel
theorem dJ5_append_cf1ce_13 : decode cJ5_append_cf1ce 13 = .ok (.istore_n 2, 1) := by decide +kernel
theorem dJ5_append_cf1ce_14 : decode cJ5_append_cf1ce 14 = .ok (.aload_n 0, 1) := by decide +kernel
theorem dJ5_append_cf1ce_15 : decode cJ5_append_cf1ce 15 = .ok (.aload_n 0, 1) := by decide +kernel
theorem dJ5_append_cf1ce_16 : decode cJ5_append_cf1ce 16 = .ok (.getfield 79, 3) := by decide +kernel
theorem dJ5_append_cf1ce_19 : decode cJ5_append_cf1ce 19 = .ok (.iload_n 2, 1) := by decide +kernel
theorem dJ5_append_cf1ce_20 : decode cJ5_append_cf1ce 20 = .ok (.iadd, 1) := by decide +kernel
theorem dJ5_append_cf1ce_21 : decode cJ5_append_cf1ce 21 = .ok (.invokevirtual 100, 3) := by decide +kernel
theorem dJ5_append_cf1ce_24 : decode cJ5_append_cf1ce 24 = .ok (.aload_n 0, 1) := by decide +kernel
theorem dJ5_append_cf1ce_25 : decode cJ5_append_cf1ce 25 = .ok (.aload_n 0, 1) := by decide +kernel
theorem dJ5_append_cf1ce_26 : decode cJ5_append_cf1ce 26 = .ok (.getfield 79, 3) := by decide +kernel
theorem dJ5_append_cf1ce_29 : decode cJ5_append_cf1ce 29 = .ok (.aload_n 1, 1) := by decide +kernel
theorem dJ5_append_cf1ce_30 : decode cJ5_append_cf1ce 30 = .ok (.invokevirtual 208, 3) := by decide +kernel
theorem dJ5_append_cf1ce_33 : decode cJ5_append_cf1ce 33 = .ok (.aload_n 0, 1) := by decide +kernel
theorem dJ5_append_cf1ce_34 : decode cJ5_append_cf1ce 34 = .ok (.dup, 1) := by decide +kernel
theorem dJ5_append_cf1ce_35 : decode cJ5_append_cf1ce 35 = .ok (.getfield 79, 3) := by decide +kernel
theorem dJ5_append_cf1ce_38 : decode cJ5_append_cf1ce 38 = .ok (.iload_n 2, 1) := by decide +kernel
theorem dJ5_append_cf1ce_39 : decode cJ5_append_cf1ce 39 = .ok (.iadd, 1) := by decide +kernel
theorem dJ5_append_cf1ce_40 : decode cJ5_append_cf1ce 40 = .ok (.putfield 79, 3) := by decide +kernel
theorem dJ5_append_cf1ce_43 : decode cJ5_append_cf1ce 43 = .ok (.aload_n 0, 1) := by decide +kernel
theorem dJ5_append_cf1ce_44 : decode cJ5_append_cf1ce 44 = .ok (.areturn, 1) := by decide +kernel
theorem dJ5_appendNull_278bc_0 : decode cJ5_appendNull_278bc 0 = .ok (.aload_n 0, 1) := by decide +kernel
theorem dJ5_appendNull_278bc_1 : decode cJ5_appendNull_278bc 1 = .ok (.aload_n 0, 1) := by decide +kernel
theorem dJ5_appendNull_278bc_2 : decode cJ5_appendNull_278bc 2 = .ok (.getfield 79, 3) := by decide +kernel
theorem dJ5_appendNull_278bc_5 : decode cJ5_appendNull_278bc 5 = .ok (.iconst 4, 1) := by decide +kernel
theorem dJ5_appendNull_278bc_6 : decode cJ5_appendNull_278bc 6 = .ok (.iadd, 1) := by decide +kernel
theorem dJ5_appendNull_278bc_7 : decode cJ5_appendNull_278bc 7 = .ok (.invokevirtual 100, 3) := by decide +kernel
theorem dJ5_appendNull_278bc_10 : decode cJ5_appendNull_278bc 10 = .ok (.aload_n 0, 1) := by decide +kernel
theorem dJ5_appendNull_278bc_11 : decode cJ5_appendNull_278bc 11 = .ok (.getfield 79, 3) := by decide +kernel
theorem dJ5_appendNull_278bc_14 : decode cJ5_appendNull_278bc 14 = .ok (.istore_n 1, 1) := by decide +kernel
theorem dJ5_appendNull_278bc_15 : decode cJ5_appendNull_278bc 15 = .ok (.aload_n 0, 1) := by decide +kernel
theorem dJ5_appendNull_278bc_16 : decode cJ5_appendNull_278bc 16 = .ok (.getfield 15, 3) := by decide +kernel
theorem dJ5_appendNull_278bc_19 : decode cJ5_appendNull_278bc 19 = .ok (.astore_n 2, 1) := by decide +kernel
theorem dJ5_appendNull_278bc_20 : decode cJ5_appendNull_278bc 20 = .ok (.aload_n 0, 1) := by decide +kernel
theorem dJ5_appendNull_278bc_21 : decode cJ5_appendNull_278bc 21 = .ok (.invokevirtual 83, 3) := by decide +kernel
theorem dJ5_appendNull_278bc_24 : decode cJ5_appendNull_278bc 24 = .ok (.ifCond .eq 38, 3) := by decide +kernel
theorem dJ5_appendNull_278bc_27 : decode cJ5_appendNull_278bc 27 = .ok (.aload_n 2, 1) := by decide +kernel
theorem dJ5_appendNull_278bc_28 : decode cJ5_appendNull_278bc 28 = .ok (.iload_n 1, 1) := by decide +kernel
theorem dJ5_appendNull_278bc_29 : decode cJ5_appendNull_278bc 29 = .ok (.iinc 1 1, 3) := by decide +kernel
end
section
theorem dJ5_appendNull_278bc_32 : decode cJ5_appendNull_278bc 32 = .ok (.bipush 110, 2) := by decide +kernel
theorem dJ5_appendNull_278bc_34 : decode cJ5_appendNull_278bc 34 = .ok (.bastore, 1) := by decide +kernel
theorem dJ5_appendNull_278bc_35 : decode cJ5_appendNull_278bc 35 = .ok (.aload_n 2, 1) := by decide +kernel
theorem dJ5_appendNull_278bc_36 : decode cJ5_appendNull_278bc 36 = .ok (.iload_n 1, 1) := by decide +kernel
theorem dJ5_appendNull_278bc_37 : decode cJ5_appendNull_278bc 37 = .ok (.iinc 1 1, 3) := by decide +kernel
theorem dJ5_appendNull_278bc_40 : decode cJ5_appendNull_278bc 40 = .ok (.bipush 117, 2) := by decide +kernel
theorem dJ5_appendNull_278bc_42 : decode cJ5_appendNull_278bc 42 = .ok (.bastore, 1) := by decide +kernel
theorem dJ5_appendNull_278bc_43 : decode cJ5_appendNull_278bc 43 = .ok (.aload_n 2, 1) := by decide +kernel
theorem dJ5_appendNull_278bc_44 : decode cJ5_appendNull_278bc 44 = .ok (.iload_n 1, 1) := by decide +kernel
theorem dJ5_appendNull_278bc_45 : decode cJ5_appendNull_278bc 45 = .ok (.iinc 1 1, 3) := by decide +kernel
theorem dJ5_appendNull_278bc_48 : decode cJ5_appendNull_278bc 48 = .ok (.bipush 108, 2) := by decide +kernel
theorem dJ5_appendNull_278bc_50 : decode cJ5_appendNull_278bc 50 = .ok (.bastore, 1) := by decide +kernel
theorem dJ5_appendNull_278bc_51 : decode cJ5_appendNull_278bc 51 = .ok (.aload_n 2, 1) := by decide +kernel
theorem dJ5_appendNull_278bc_52 : decode cJ5_appendNull_278bc 52 = .ok (.iload_n 1, 1) := by decide +kernel
theorem dJ5_appendNull_278bc_53 : decode cJ5_appendNull_278bc 53 = .ok (.iinc 1 1, 3) := by decide +kernel
theorem dJ5_appendNull_278bc_56 : decode cJ5_appendNull_278bc 56 = .ok (.bipush 108, 2) := by decide +kernel
theorem dJ5_appendNull_278bc_58 : decode cJ5_appendNull_278bc 58 = .ok (.bastore, 1) := by decide +kernel
theorem dJ5_appendNull_278bc_59 : decode cJ5_appendNull_278bc 59 = .ok (.goto 17, 3) := by decide +kernel
theorem dJ5_appendNull_278bc_62 : decode cJ5_appendNull_278bc 62 = .ok (.aload_n 2, 1) := by decide +kernel
theorem dJ5_appendNull_278bc_63 : decode cJ5_appendNull_278bc 63 = .ok (.iload_n 1, 1) := by decide +kernel
theorem dJ5_appendNull_278bc_64 : decode cJ5_appendNull_278bc 64 = .ok (.bipush 110, 2) := by decide +kernel
theorem dJ5_appendNull_278bc_66 : decode cJ5_appendNull_278bc 66 = .ok (.bipush 117, 2) := by decide +kernel
theorem dJ5_appendNull_278bc_68 : decode cJ5_appendNull_278bc 68 = .ok (.bipush 108, 2) := by decide +kernel
theorem dJ5_appendNull_278bc_70 : decode cJ5_appendNull_278bc 70 = .ok (.bipush 108, 2) := by decide +kernel
theorem dJ5_appendNull_278bc_72 : decode cJ5_appendNull_278bc 72 = .ok (.invokestatic 226, 3) := by decide +kernel
theorem dJ5_appendNull_278bc_75 : decode cJ5_appendNull_278bc 75 = .ok (.istore_n 1, 1) := by decide +kernel
theorem dJ5_appendNull_278bc_76 : decode cJ5_appendNull_278bc 76 = .ok (.aload_n 0, 1) := by decide +kernel
theorem dJ5_appendNull_278bc_77 : decode cJ5_appendNull_278bc 77 = .ok (.iload_n 1, 1) := by decide +kernel
theorem dJ5_appendNull_278bc_78 : decode cJ5_appendNull_278bc 78 = .ok (.putfield 79, 3) := by decide +kernel
theorem dJ5_appendNull_278bc_81 : decode cJ5_appendNull_278bc 81 = .ok (.aload_n 0, 1) := by decide +kernel
theorem dJ5_appendNull_278bc_82 : decode cJ5_appendNull_278bc 82 = .ok (.areturn, 1) := by decide +kernel
theorem dJ5_append_3fe6f_0 : decode cJ5_append_3fe6f 0 = .ok (.aload_n 0, 1) := by decide +kernel
theorem dJ5_append_3fe6f_1 : decode cJ5_append_3fe6f 1 = .ok (.aload_n 0, 1) := by decide +kernel
theorem dJ5_append_3fe6f_2 : decode cJ5_append_3fe6f 2 = .ok (.getfield 79, 3) := by decide +kernel
theorem dJ5_append_3fe6f_5 : decode cJ5_append_3fe6f 5 = .ok (.iconst 1, 1) := by decide +kernel
theorem dJ5_append_3fe6f_6 : decode cJ5_append_3fe6f 6 = .ok (.iadd, 1) := by decide +kernel
theorem dJ5_append_3fe6f_7 : decode cJ5_append_3fe6f 7 = .ok (.invokevirtual 100, 3) := by decide +kernel
theorem dJ5_append_3fe6f_10 : decode cJ5_append_3fe6f 10 = .ok (.aload_n 0, 1) := by decide +kernel
theorem dJ5_append_3fe6f_11 : decode cJ5_append_3fe6f 11 = .ok (.invokevirtual 83, 3) := by decide +kernel
theorem dJ5_append_3fe6f_14 : decode cJ5_append_3fe6f 14 = .ok (.ifCond .eq 31, 3) := by decide +kernel
theorem dJ5_append_3fe6f_17 : decode cJ5_append_3fe6f 17 = .ok (.iload_n 1, 1) := by decide +kernel
theorem dJ5_append_3fe6f_18 : decode cJ5_append_3fe6f 18 = .ok (.invokestatic 191, 3) := by decide +kernel
theorem dJ5_append_3fe6f_21 : decode cJ5_append_3fe6f 21 = .ok (.ifCond .eq 24, 3) := by decide +kernel
theorem dJ5_append_3fe6f_24 : decode cJ5_append_3fe6f 24 = .ok (.aload_n 0, 1) := by decide +kernel
theorem dJ5_append_3fe6f_25 : decode cJ5_append_3fe6f 25 = .ok (.getfield 15, 3) := by decide +kernel
theorem dJ5_append_3fe6f_28 : decode cJ5_append_3fe6f 28 = .ok (.aload_n 0, 1) := by decide +kernel
theorem dJ5_append_3fe6f_29 : decode cJ5_append_3fe6f 29 = .ok (.dup, 1) := by decide +kernel
theorem dJ5_append_3fe6f_30 : decode cJ5_append_3fe6f 30 = .ok (.getfield 79, 3) := by decide +kernel
theorem dJ5_append_3fe6f_33 : decode cJ5_append_3fe6f 33 = .ok (.dup_x1, 1) := by decide +kernel
theorem dJ5_append_3fe6f_34 : decode cJ5_append_3fe6f 34 = .ok (.iconst 1, 1) := by decide +kernel
theorem dJ5_append_3fe6f_35 : decode cJ5_append_3fe6f 35 = .ok (.iadd, 1) := by decide +kernel
theorem dJ5_append_3fe6f_36 : decode cJ5_append_3fe6f 36 = .ok (.putfield 79, 3) := by decide +kernel
theorem dJ5_append_3fe6f_39 : decode cJ5_append_3fe6f 39 = .ok (.iload_n 1, 1) := by decide +kernel
theorem dJ5_append_3fe6f_40 : decode cJ5_append_3fe6f 40 = .ok (.i2b, 1) := by decide +kernel
theorem dJ5_append_3fe6f_41 : decode cJ5_append_3fe6f 41 = .ok (.bastore, 1) := by decide +kernel
theorem dJ5_append_3fe6f_42 : decode cJ5_append_3fe6f 42 = .ok (.goto 33, 3) := by decide +kernel
theorem dJ5_append_3fe6f_45 : decode cJ5_append_3fe6f 45 = .ok (.aload_n 0, 1) := by decide +kernel
theorem dJ5_append_3fe6f_46 : decode cJ5_append_3fe6f 46 = .ok (.invokevirtual 83, 3) := by decide +kernel
theorem dJ5_append_3fe6f_49 : decode cJ5_append_3fe6f 49 = .ok (.ifCond .eq 7, 3) := by decide +kernel
theorem dJ5_append_3fe6f_52 : decode cJ5_append_3fe6f 52 = .ok (.aload_n 0, 1) := by decide +kernel
theorem dJ5_append_3fe6f_53 : decode cJ5_append_3fe6f 53 = .ok (.invokevirtual 195, 3) := by decide +kernel
theorem dJ5_append_3fe6f_56 : decode cJ5_append_3fe6f 56 = .ok (.aload_n 0, 1) := by decide +kernel
theorem dJ5_append_3fe6f_57 : decode cJ5_append_3fe6f 57 = .ok (.getfield 15, 3) := by decide +kernel
theorem dJ5_append_3fe6f_60 : decode cJ5_append_3fe6f 60 = .ok (.aload_n 0, 1) := by decide +kernel
theorem dJ5_append_3fe6f_61 : decode cJ5_append_3fe6f 61 = .ok (.dup, 1) := by decide +kernel
theorem dJ5_append_3fe6f_62 : decode cJ5_append_3fe6f 62 = .ok (.getfield 79, 3) := by decide +kernel
theorem dJ5_append_3fe6f_65 : decode cJ5_append_3fe6f 65 = .ok (.dup_x1, 1) := by decide +kernel
theorem dJ5_append_3fe6f_66 : decode cJ5_append_3fe6f 66 = .ok (.iconst 1, 1) := by decide +kernel
theorem dJ5_append_3fe6f_67 : decode cJ5_append_3fe6f 67 = .ok (.iadd, 1) := by decide +kernel
theorem dJ5_append_3fe6f_68 : decode cJ5_append_3fe6f 68 = .ok (.putfield 79, 3) := by decide +kernel
theorem dJ5_append_3fe6f_71 : decode cJ5_append_3fe6f 71 = .ok (.iload_n 1, 1) := by decide +kernel
theorem dJ5_append_3fe6f_72 : decode cJ5_append_3fe6f 72 = .ok (.invokestatic 197, 3) := by decide +kernel
theorem dJ5_append_3fe6f_75 : decode cJ5_append_3fe6f 75 = .ok (.aload_n 0, 1) := by decide +kernel
theorem dJ5_append_3fe6f_76 : decode cJ5_append_3fe6f 76 = .ok (.areturn, 1) := by decide +kernel
theorem dJ5_append_c97b9_0 : decode cJ5_append_c97b9 0 = .ok (.aload_n 0, 1) := by decide +kernel
theorem dJ5_append_c97b9_1 : decode cJ5_append_c97b9 1 = .ok (.getfield 79, 3) := by decide +kernel
theorem dJ5_append_c97b9_4 : decode cJ5_append_c97b9 4 = .ok (.istore_n 2, 1) := by decide +kernel
theorem dJ5_append_c97b9_5 : decode cJ5_append_c97b9 5 = .ok (.iload_n 2, 1) := by decide +kernel
theorem dJ5_append_c97b9_6 : decode cJ5_append_c97b9 6 = .ok (.iload_n 1, 1) := by decide +kernel
theorem dJ5_append_c97b9_7 : decode cJ5_append_c97b9 7 = .ok (.invokestatic 245, 3) := by decide +kernel
theorem dJ5_append_c97b9_10 : decode cJ5_append_c97b9 10 = .ok (.iadd, 1) := by decide +kernel
theorem dJ5_append_c97b9_11 : decode cJ5_append_c97b9 11 = .ok (.istore_n 3, 1) := by decide +kernel
theorem dJ5_append_c97b9_12 : decode cJ5_append_c97b9 12 = .ok (.aload_n 0, 1) := by decide +kernel
theorem dJ5_append_c97b9_13 : decode cJ5_append_c97b9 13 = .ok (.iload_n 3, 1) := by decide +kernel
theorem dJ5_append_c97b9_14 : decode cJ5_append_c97b9 14 = .ok (.invokevirtual 100, 3) := by decide +kernel
theorem dJ5_append_c97b9_17 : decode cJ5_append_c97b9 17 = .ok (.aload_n 0, 1) := by decide +kernel
theorem dJ5_append_c97b9_18 : decode cJ5_append_c97b9 18 = .ok (.invokevirtual 83, 3) := by decide +kernel
theorem dJ5_append_c97b9_21 : decode cJ5_append_c97b9 21 = .ok (.ifCond .eq 16, 3) := by decide +kernel
theorem dJ5_append_c97b9_24 : decode cJ5_append_c97b9 24 = .ok (.iload_n 1, 1) := by decide +kernel
theorem dJ5_append_c97b9_25 : decode cJ5_append_c97b9 25 = .ok (.iload_n 3, 1) := by decide +kernel
theorem dJ5_append_c97b9_26 : decode cJ5_append_c97b9 26 = .ok (.aload_n 0, 1) := by decide +kernel
theorem dJ5_append_c97b9_27 : decode cJ5_append_c97b9 27 = .ok (.getfield 15, 3) := by decide +kernel
theorem dJ5_append_c97b9_30 : decode cJ5_append_c97b9 30 = .ok (.invokestatic 248, 3) := by decide +kernel
theorem dJ5_append_c97b9_33 : decode cJ5_append_c97b9 33 = .ok (.pop, 1) := by decide +kernel
theorem dJ5_append_c97b9_34 : decode cJ5_append_c97b9 34 = .ok (.goto 14, 3) := by decide +kernel
theorem dJ5_append_c97b9_37 : decode cJ5_append_c97b9 37 = .ok (.iload_n 1, 1) := by decide +kernel
theorem dJ5_append_c97b9_38 : decode cJ5_append_c97b9 38 = .ok (.iload_n 2, 1) := by decide +kernel
theorem dJ5_append_c97b9_39 : decode cJ5_append_c97b9 39 = .ok (.iload_n 3, 1) := by decide +kernel
theorem dJ5_append_c97b9_40 : decode cJ5_append_c97b9 40 = .ok (.aload_n 0, 1) := by decide +kernel
theorem dJ5_append_c97b9_41 : decode cJ5_append_c97b9 41 = .ok (.getfield 15, 3) := by decide +kernel
theorem dJ5_append_c97b9_44 : decode cJ5_append_c97b9 44 = .ok (.invokestatic 251, 3) := by decide +kernel
theorem dJ5_append_c97b9_47 : decode cJ5_append_c97b9 47 = .ok (.pop, 1) := by decide +kernel
theorem dJ5_append_c97b9_48 : decode cJ5_append_c97b9 48 = .ok (.aload_n 0, 1) := by decide +kernel
theorem dJ5_append_c97b9_49 : decode cJ5_append_c97b9 49 = .ok (.iload_n 3, 1) := by decide +kernel
theorem dJ5_append_c97b9_50 : decode cJ5_append_c97b9 50 = .ok (.putfield 79, 3) := by decide +kernel
theorem dJ5_append_c97b9_53 : decode cJ5_append_c97b9 53 = .ok (.aload_n 0, 1) := by decide +kernel
theorem dJ5_append_c97b9_54 : decode cJ5_append_c97b9 54 = .ok (.areturn, 1) := by decide +kernel
theorem dJ5_getValue_6d5f1_0 : decode cJ5_getValue_6d5f1 0 = .ok (.aload_n 0, 1) := by decide +kernel
theorem dJ5_getValue_6d5f1_1 : decode cJ5_getValue_6d5f1 1 = .ok (.getfield 15, 3) := by decide +kernel
theorem dJ5_getValue_6d5f1_4 : decode cJ5_getValue_6d5f1 4 = .ok (.areturn, 1) := by decide +kernel
theorem dJ5_isLatin1_aae02_0 : decode cJ5_isLatin1_aae02 0 = .ok (.getstatic 18, 3) := by decide +kernel
theorem dJ5_isLatin1_aae02_3 : decode cJ5_isLatin1_aae02 3 = .ok (.ifCond .eq 14, 3) := by decide +kernel
theorem dJ5_isLatin1_aae02_6 : decode cJ5_isLatin1_aae02 6 = .ok (.aload_n 0, 1) := by decide +kernel
theorem dJ5_isLatin1_aae02_7 : decode cJ5_isLatin1_aae02 7 = .ok (.getfield 22, 3) := by decide +kernel
theorem dJ5_isLatin1_aae02_10 : decode cJ5_isLatin1_aae02 10 = .ok (.ifCond .ne 7, 3) := by decide +kernel
theorem dJ5_isLatin1_aae02_13 : decode cJ5_isLatin1_aae02 13 = .ok (.iconst 1, 1) := by decide +kernel
theorem dJ5_isLatin1_aae02_14 : decode cJ5_isLatin1_aae02 14 = .ok (.goto 4, 3) := by decide +kernel
theorem dJ5_isLatin1_aae02_17 : decode cJ5_isLatin1_aae02 17 = .ok (.iconst 0, 1) := by decide +kernel
theorem dJ5_isLatin1_aae02_18 : decode cJ5_isLatin1_aae02 18 = .ok (.ireturn, 1) := by decide +kernel
theorem dJ5_inflateIfNeededFor_a7421_0 : decode cJ5_inflateIfNeededFor_a7421 0 = .ok (.getstatic 18, 3) := by decide +kernel
theorem dJ5_inflateIfNeededFor_a7421_3 : decode cJ5_inflateIfNeededFor_a7421 3 = .ok (.ifCond .eq 18, 3) := by decide +kernel
theorem dJ5_inflateIfNeededFor_a7421_6 : decode cJ5_inflateIfNeededFor_a7421 6 = .ok (.aload_n 0, 1) := by decide +kernel
theorem dJ5_inflateIfNeededFor_a7421_7 : decode cJ5_inflateIfNeededFor_a7421 7 = .ok (.getfield 22, 3) := by decide +kernel
theorem dJ5_inflateIfNeededFor_a7421_10 : decode cJ5_inflateIfNeededFor_a7421 10 = .ok (.aload_n 1, 1) := by decide +kernel
theorem dJ5_inflateIfNeededFor_a7421_11 : decode cJ5_inflateIfNeededFor_a7421 11 = .ok (.invokevirtual 40, 3) := by decide +kernel
theorem dJ5_inflateIfNeededFor_a7421_14 : decode cJ5_inflateIfNeededFor_a7421 14 = .ok (.if_icmp .eq 7, 3) := by decide +kernel
theorem dJ5_inflateIfNeededFor_a7421_17 : decode cJ5_inflateIfNeededFor_a7421 17 = .ok (.aload_n 0, 1) := by decide +kernel
theorem dJ5_inflateIfNeededFor_a7421_18 : decode cJ5_inflateIfNeededFor_a7421 18 = .ok (.invokevirtual 195, 3) := by decide +kernel
theorem dJ5_inflateIfNeededFor_a7421_21 : decode cJ5_inflateIfNeededFor_a7421 21 = .ok (.return_, 1) := by decide +kernel
theorem dJ5_putStringAt_47b60_0 : decode cJ5_putStringAt_47b60 0 = .ok (.aload_n 0, 1) := by decide +kernel
theorem dJ5_putStringAt_47b60_1 : decode cJ5_putStringAt_47b60 1 = .ok (.aload_n 2, 1) := by decide +kernel
theorem dJ5_putStringAt_47b60_2 : decode cJ5_putStringAt_47b60 2 = .ok (.invokevirtual 397, 3) := by decide +kernel
theorem dJ5_putStringAt_47b60_5 : decode cJ5_putStringAt_47b60 5 = .ok (.aload_n 2, 1) := by decide +kernel
theorem dJ5_putStringAt_47b60_6 : decode cJ5_putStringAt_47b60 6 = .ok (.aload_n 0, 1) := by decide +kernel
theorem dJ5_putStringAt_47b60_7 : decode cJ5_putStringAt_47b60 7 = .ok (.getfield 15, 3) := by decide +kernel
theorem dJ5_putStringAt_47b60_10 : decode cJ5_putStringAt_47b60 10 = .ok (.iload_n 1, 1) := by decide +kernel
theorem dJ5_putStringAt_47b60_11 : decode cJ5_putStringAt_47b60 11 = .ok (.aload_n 0, 1) := by decide +kernel
theorem dJ5_putStringAt_47b60_12 : decode cJ5_putStringAt_47b60 12 = .ok (.getfield 22, 3) := by decide +kernel
theorem dJ5_putStringAt_47b60_15 : decode cJ5_putStringAt_47b60 15 = .ok (.invokevirtual 399, 3) := by decide +kernel
theorem dJ5_putStringAt_47b60_18 : decode cJ5_putStringAt_47b60 18 = .ok (.return_, 1) := by decide +kernel
theorem dJ6_getChars_ba4f3_0 : decode cJ6_getChars_ba4f3 0 = .ok (.iload_n 1, 1) := by decide +kernel
theorem dJ6_getChars_ba4f3_1 : decode cJ6_getChars_ba4f3 1 = .ok (.istore 5, 2) := by decide +kernel
theorem dJ6_getChars_ba4f3_3 : decode cJ6_getChars_ba4f3 3 = .ok (.iload_n 0, 1) := by decide +kernel
theorem dJ6_getChars_ba4f3_4 : decode cJ6_getChars_ba4f3 4 = .ok (.ifCond .ge 7, 3) := by decide +kernel
theorem dJ6_getChars_ba4f3_7 : decode cJ6_getChars_ba4f3 7 = .ok (.iconst 1, 1) := by decide +kernel
theorem dJ6_getChars_ba4f3_8 : decode cJ6_getChars_ba4f3 8 = .ok (.goto 4, 3) := by decide +kernel
theorem dJ6_getChars_ba4f3_11 : decode cJ6_getChars_ba4f3 11 = .ok (.iconst 0, 1) := by decide +kernel
theorem dJ6_getChars_ba4f3_12 : decode cJ6_getChars_ba4f3 12 = .ok (.istore 6, 2) := by decide +kernel
theorem dJ6_getChars_ba4f3_14 : decode cJ6_getChars_ba4f3 14 = .ok (.iload 6, 2) := by decide +kernel
theorem dJ6_getChars_ba4f3_16 : decode cJ6_getChars_ba4f3 16 = .ok (.ifCond .ne 6, 3) := by decide +kernel
theorem dJ6_getChars_ba4f3_19 : decode cJ6_getChars_ba4f3 19 = .ok (.iload_n 0, 1) := by decide +kernel
theorem dJ6_getChars_ba4f3_20 : decode cJ6_getChars_ba4f3 20 = .ok (.ineg, 1) := by decide +kernel
theorem dJ6_getChars_ba4f3_21 : decode cJ6_getChars_ba4f3 21 = .ok (.istore_n 0, 1) := by decide +kernel
theorem dJ6_getChars_ba4f3_22 : decode cJ6_getChars_ba4f3 22 = .ok (.iload_n 0, 1) := by decide +kernel
theorem dJ6_getChars_ba4f3_23 : decode cJ6_getChars_ba4f3 23 = .ok (.bipush (-100), 2) := by decide +kernel
theorem dJ6_getChars_ba4f3_25 : decode cJ6_getChars_ba4f3 25 = .ok (.if_icmp .gt 47, 3) := by decide +kernel
theorem dJ6_getChars_ba4f3_28 : decode cJ6_getChars_ba4f3 28 = .ok (.iload_n 0, 1) := by decide +kernel
theorem dJ6_getChars_ba4f3_29 : decode cJ6_getChars_ba4f3 29 = .ok (.bipush 100, 2) := by decide +kernel
theorem dJ6_getChars_ba4f3_31 : decode cJ6_getChars_ba4f3 31 = .ok (.idiv, 1) := by decide +kernel
theorem dJ6_getChars_ba4f3_32 : decode cJ6_getChars_ba4f3 32 = .ok (.istore_n 3, 1) := by decide +kernel
theorem dJ6_getChars_ba4f3_33 : decode cJ6_getChars_ba4f3 33 = .ok (.iload_n 3, 1) := by decide +kernel
theorem dJ6_getChars_ba4f3_34 : decode cJ6_getChars_ba4f3 34 = .ok (.bipush 100, 2) := by decide +kernel
theorem dJ6_getChars_ba4f3_36 : decode cJ6_getChars_ba4f3 36 = .ok (.imul, 1) := by decide +kernel
theorem dJ6_getChars_ba4f3_37 : decode cJ6_getChars_ba4f3 37 = .ok (.iload_n 0, 1) := by decide +kernel
theorem dJ6_getChars_ba4f3_38 : decode cJ6_getChars_ba4f3 38 = .ok (.isub, 1) := by decide +kernel
theorem dJ6_getChars_ba4f3_39 : decode cJ6_getChars_ba4f3 39 = .ok (.istore 4, 2) := by decide +kernel
theorem dJ6_getChars_ba4f3_41 : decode cJ6_getChars_ba4f3 41 = .ok (.iload_n 3, 1) := by decide +kernel
theorem dJ6_getChars_ba4f3_42 : decode cJ6_getChars_ba4f3 42 = .ok (.istore_n 0, 1) := by decide +kernel
theorem dJ6_getChars_ba4f3_43 : decode cJ6_getChars_ba4f3 43 = .ok (.aload_n 2, 1) := by decide +kernel
theorem dJ6_getChars_ba4f3_44 : decode cJ6_getChars_ba4f3 44 = .ok (.iinc 5 (-1), 3) := by decide +kernel
theorem dJ6_getChars_ba4f3_47 : decode cJ6_getChars_ba4f3 47 = .ok (.iload 5, 2) := by decide +kernel
theorem dJ6_getChars_ba4f3_49 : decode cJ6_getChars_ba4f3 49 = .ok (.getstatic 83, 3) := by decide +kernel
theorem dJ6_getChars_ba4f3_52 : decode cJ6_getChars_ba4f3 52 = .ok (.iload 4, 2) := by decide +kernel
theorem dJ6_getChars_ba4f3_54 : decode cJ6_getChars_ba4f3 54 = .ok (.baload, 1) := by decide +kernel
theorem dJ6_getChars_ba4f3_55 : decode cJ6_getChars_ba4f3 55 = .ok (.bastore, 1) := by decide +kernel
theorem dJ6_getChars_ba4f3_56 : decode cJ6_getChars_ba4f3 56 = .ok (.aload_n 2, 1) := by decide +kernel
theorem dJ6_getChars_ba4f3_57 : decode cJ6_getChars_ba4f3 57 = .ok (.iinc 5 (-1), 3) := by decide +kernel
theorem dJ6_getChars_ba4f3_60 : decode cJ6_getChars_ba4f3 60 = .ok (.iload 5, 2) := by decide +kernel
theorem dJ6_getChars_ba4f3_62 : decode cJ6_getChars_ba4f3 62 = .ok (.getstatic 87, 3) := by decide +kernel
theorem dJ6_getChars_ba4f3_65 : decode cJ6_getChars_ba4f3 65 = .ok (.iload 4, 2) := by decide +kernel
theorem dJ6_getChars_ba4f3_67 : decode cJ6_getChars_ba4f3 67 = .ok (.baload, 1) := by decide +kernel
theorem dJ6_getChars_ba4f3_68 : decode cJ6_getChars_ba4f3 68 = .ok (.bastore, 1) := by decide +kernel
theorem dJ6_getChars_ba4f3_69 : decode cJ6_getChars_ba4f3 69 = .ok (.goto (-47), 3) := by decide +kernel
theorem dJ6_getChars_ba4f3_72 : decode cJ6_getChars_ba4f3 72 = .ok (.aload_n 2, 1) := by decide +kernel
theorem dJ6_getChars_ba4f3_73 : decode cJ6_getChars_ba4f3 73 = .ok (.iinc 5 (-1), 3) := by decide +kernel
theorem dJ6_getChars_ba4f3_76 : decode cJ6_getChars_ba4f3 76 = .ok (.iload 5, 2) := by decide +kernel
theorem dJ6_getChars_ba4f3_78 : decode cJ6_getChars_ba4f3 78 = .ok (.getstatic 83, 3) := by decide +kernel
theorem dJ6_getChars_ba4f3_81 : decode cJ6_getChars_ba4f3 81 = .ok (.iload_n 0, 1) := by decide +kernel
theorem dJ6_getChars_ba4f3_82 : decode cJ6_getChars_ba4f3 82 = .ok (.ineg, 1) := by decide +kernel
theorem dJ6_getChars_ba4f3_83 : decode cJ6_getChars_ba4f3 83 = .ok (.baload, 1) := by decide +kernel
theorem dJ6_getChars_ba4f3_84 : decode cJ6_getChars_ba4f3 84 = .ok (.bastore, 1) := by decide +kernel
theorem dJ6_getChars_ba4f3_85 : decode cJ6_getChars_ba4f3 85 = .ok (.iload_n 0, 1) := by decide +kernel
theorem dJ6_getChars_ba4f3_86 : decode cJ6_getChars_ba4f3 86 = .ok (.bipush (-9), 2) := by decide +kernel
theorem dJ6_getChars_ba4f3_88 : decode cJ6_getChars_ba4f3 88 = .ok (.if_icmp .ge 16, 3) := by decide +kernel
theorem dJ6_getChars_ba4f3_91 : decode cJ6_getChars_ba4f3 91 = .ok (.aload_n 2, 1) := by decide +kernel
theorem dJ6_getChars_ba4f3_92 : decode cJ6_getChars_ba4f3 92 = .ok (.iinc 5 (-1), 3) := by decide +kernel
theorem dJ6_getChars_ba4f3_95 : decode cJ6_getChars_ba4f3 95 = .ok (.iload 5, 2) := by decide +kernel
theorem dJ6_getChars_ba4f3_97 : decode cJ6_getChars_ba4f3 97 = .ok (.getstatic 87, 3) := by decide +kernel
theorem dJ6_getChars_ba4f3_100 : decode cJ6_getChars_ba4f3 100 = .ok (.iload_n 0, 1) := by decide +kernel
theorem dJ6_getChars_ba4f3_101 : decode cJ6_getChars_ba4f3 101 = .ok (.ineg, 1) := by decide +kernel
theorem dJ6_getChars_ba4f3_102 : decode cJ6_getChars_ba4f3 102 = .ok (.baload, 1) := by decide +kernel
theorem dJ6_getChars_ba4f3_103 : decode cJ6_getChars_ba4f3 103 = .ok (.bastore, 1) := by decide +kernel
theorem dJ6_getChars_ba4f3_104 : decode cJ6_getChars_ba4f3 104 = .ok (.iload 6, 2) := by decide +kernel
theorem dJ6_getChars_ba4f3_106 : decode cJ6_getChars_ba4f3 106 = .ok (.ifCond .eq 12, 3) := by decide +kernel
theorem dJ6_getChars_ba4f3_109 : decode cJ6_getChars_ba4f3 109 = .ok (.aload_n 2, 1) := by decide +kernel
theorem dJ6_getChars_ba4f3_110 : decode cJ6_getChars_ba4f3 110 = .ok (.iinc 5 (-1), 3) := by decide +kernel
theorem dJ6_getChars_ba4f3_113 : decode cJ6_getChars_ba4f3 113 = .ok (.iload 5, 2) := by decide +kernel
theorem dJ6_getChars_ba4f3_115 : decode cJ6_getChars_ba4f3 115 = .ok (.bipush 45, 2) := by decide +kernel
theorem dJ6_getChars_ba4f3_117 : decode cJ6_getChars_ba4f3 117 = .ok (.bastore, 1) := by decide +kernel
theorem dJ6_getChars_ba4f3_118 : decode cJ6_getChars_ba4f3 118 = .ok (.iload 5, 2) := by decide +kernel
theorem dJ6_getChars_ba4f3_120 : decode cJ6_getChars_ba4f3 120 = .ok (.ireturn, 1) := by decide +kernel
theorem dJ6_stringSize_0f7a4_0 : decode cJ6_stringSize_0f7a4 0 = .ok (.iconst 1, 1) := by decide +kernel
theorem dJ6_stringSize_0f7a4_1 : decode cJ6_stringSize_0f7a4 1 = .ok (.istore_n 1, 1) := by decide +kernel
theorem dJ6_stringSize_0f7a4_2 : decode cJ6_stringSize_0f7a4 2 = .ok (.iload_n 0, 1) := by decide +kernel
theorem dJ6_stringSize_0f7a4_3 : decode cJ6_stringSize_0f7a4 3 = .ok (.ifCond .lt 8, 3) := by decide +kernel
theorem dJ6_stringSize_0f7a4_6 : decode cJ6_stringSize_0f7a4 6 = .ok (.iconst 0, 1) := by decide +kernel
theorem dJ6_stringSize_0f7a4_7 : decode cJ6_stringSize_0f7a4 7 = .ok (.istore_n 1, 1) := by decide +kernel
theorem dJ6_stringSize_0f7a4_8 : decode cJ6_stringSize_0f7a4 8 = .ok (.iload_n 0, 1) := by decide +kernel
theorem dJ6_stringSize_0f7a4_9 : decode cJ6_stringSize_0f7a4 9 = .ok (.ineg, 1) := by decide +kernel
theorem dJ6_stringSize_0f7a4_10 : decode cJ6_stringSize_0f7a4 10 = .ok (.istore_n 0, 1) := by decide +kernel
theorem dJ6_stringSize_0f7a4_11 : decode cJ6_stringSize_0f7a4 11 = .ok (.bipush (-10), 2) := by decide +kernel
theorem dJ6_stringSize_0f7a4_13 : decode cJ6_stringSize_0f7a4 13 = .ok (.istore_n 2, 1) := by decide +kernel
theorem dJ6_stringSize_0f7a4_14 : decode cJ6_stringSize_0f7a4 14 = .ok (.iconst 1, 1) := by decide +kernel
theorem dJ6_stringSize_0f7a4_15 : decode cJ6_stringSize_0f7a4 15 = .ok (.istore_n 3, 1) := by decide +kernel
theorem dJ6_stringSize_0f7a4_16 : decode cJ6_stringSize_0f7a4 16 = .ok (.iload_n 3, 1) := by decide +kernel
theorem dJ6_stringSize_0f7a4_17 : decode cJ6_stringSize_0f7a4 17 = .ok (.bipush 10, 2) := by decide +kernel
theorem dJ6_stringSize_0f7a4_19 : decode cJ6_stringSize_0f7a4 19 = .ok (.if_icmp .ge 23, 3) := by decide +kernel
theorem dJ6_stringSize_0f7a4_22 : decode cJ6_stringSize_0f7a4 22 = .ok (.iload_n 0, 1) := by decide +kernel
theorem dJ6_stringSize_0f7a4_23 : decode cJ6_stringSize_0f7a4 23 = .ok (.iload_n 2, 1) := by decide +kernel
theorem dJ6_stringSize_0f7a4_24 : decode cJ6_stringSize_0f7a4 24 = .ok (.if_icmp .le 7, 3) := by decide +kernel
theorem dJ6_stringSize_0f7a4_27 : decode cJ6_stringSize_0f7a4 27 = .ok (.iload_n 3, 1) := by decide +kernel
theorem dJ6_stringSize_0f7a4_28 : decode cJ6_stringSize_0f7a4 28 = .ok (.iload_n 1, 1) := by decide +kernel
theorem dJ6_stringSize_0f7a4_29 : decode cJ6_stringSize_0f7a4 29 = .ok (.iadd, 1) := by decide +kernel
theorem dJ6_stringSize_0f7a4_30 : decode cJ6_stringSize_0f7a4 30 = .ok (.ireturn, 1) := by decide +kernel
theorem dJ6_stringSize_0f7a4_31 : decode cJ6_stringSize_0f7a4 31 = .ok (.bipush 10, 2) := by decide +kernel
theorem dJ6_stringSize_0f7a4_33 : decode cJ6_stringSize_0f7a4 33 = .ok (.iload_n 2, 1) := by decide +kernel
theorem dJ6_stringSize_0f7a4_34 : decode cJ6_stringSize_0f7a4 34 = .ok (.imul, 1) := by decide +kernel
theorem dJ6_stringSize_0f7a4_35 : decode cJ6_stringSize_0f7a4 35 = .ok (.istore_n 2, 1) := by decide +kernel
theorem dJ6_stringSize_0f7a4_36 : decode cJ6_stringSize_0f7a4 36 = .ok (.iinc 3 1, 3) := by decide +kernel
theorem dJ6_stringSize_0f7a4_39 : decode cJ6_stringSize_0f7a4 39 = .ok (.goto (-23), 3) := by decide +kernel
theorem dJ6_stringSize_0f7a4_42 : decode cJ6_stringSize_0f7a4 42 = .ok (.bipush 10, 2) := by decide +kernel
theorem dJ6_stringSize_0f7a4_44 : decode cJ6_stringSize_0f7a4 44 = .ok (.iload_n 1, 1) := by decide +kernel
theorem dJ6_stringSize_0f7a4_45 : decode cJ6_stringSize_0f7a4 45 = .ok (.iadd, 1) := by decide +kernel
theorem dJ6_stringSize_0f7a4_46 : decode cJ6_stringSize_0f7a4 46 = .ok (.ireturn, 1) := by decide +kernel
theorem dJ9_floorDiv_7cf53_0 : decode cJ9_floorDiv_7cf53 0 = .ok (.iload_n 0, 1) := by decide +kernel
theorem dJ9_floorDiv_7cf53_1 : decode cJ9_floorDiv_7cf53 1 = .ok (.iload_n 1, 1) := by decide +kernel
theorem dJ9_floorDiv_7cf53_2 : decode cJ9_floorDiv_7cf53 2 = .ok (.idiv, 1) := by decide +kernel
theorem dJ9_floorDiv_7cf53_3 : decode cJ9_floorDiv_7cf53 3 = .ok (.istore_n 2, 1) := by decide +kernel
theorem dJ9_floorDiv_7cf53_4 : decode cJ9_floorDiv_7cf53 4 = .ok (.iload_n 0, 1) := by decide +kernel
theorem dJ9_floorDiv_7cf53_5 : decode cJ9_floorDiv_7cf53 5 = .ok (.iload_n 1, 1) := by decide +kernel
theorem dJ9_floorDiv_7cf53_6 : decode cJ9_floorDiv_7cf53 6 = .ok (.ixor, 1) := by decide +kernel
theorem dJ9_floorDiv_7cf53_7 : decode cJ9_floorDiv_7cf53 7 = .ok (.ifCond .ge 14, 3) := by decide +kernel
theorem dJ9_floorDiv_7cf53_10 : decode cJ9_floorDiv_7cf53 10 = .ok (.iload_n 2, 1) := by decide +kernel
theorem dJ9_floorDiv_7cf53_11 : decode cJ9_floorDiv_7cf53 11 = .ok (.iload_n 1, 1) := by decide +kernel
theorem dJ9_floorDiv_7cf53_12 : decode cJ9_floorDiv_7cf53 12 = .ok (.imul, 1) := by decide +kernel
theorem dJ9_floorDiv_7cf53_13 : decode cJ9_floorDiv_7cf53 13 = .ok (.iload_n 0, 1) := by decide +kernel
theorem dJ9_floorDiv_7cf53_14 : decode cJ9_floorDiv_7cf53 14 = .ok (.if_icmp .eq 7, 3) := by decide +kernel
theorem dJ9_floorDiv_7cf53_17 : decode cJ9_floorDiv_7cf53 17 = .ok (.iload_n 2, 1) := by decide +kernel
theorem dJ9_floorDiv_7cf53_18 : decode cJ9_floorDiv_7cf53 18 = .ok (.iconst 1, 1) := by decide +kernel
theorem dJ9_floorDiv_7cf53_19 : decode cJ9_floorDiv_7cf53 19 = .ok (.isub, 1) := by decide +kernel
theorem dJ9_floorDiv_7cf53_20 : decode cJ9_floorDiv_7cf53 20 = .ok (.ireturn, 1) := by decide +kernel
theorem dJ9_floorDiv_7cf53_21 : decode cJ9_floorDiv_7cf53 21 = .ok (.iload_n 2, 1) := by decide +kernel
theorem dJ9_floorDiv_7cf53_22 : decode cJ9_floorDiv_7cf53 22 = .ok (.ireturn, 1) := by decide +kernel
theorem dJ9_floorMod_7cf53_0 : decode cJ9_floorMod_7cf53 0 = .ok (.iload_n 0, 1) := by decide +kernel
theorem dJ9_floorMod_7cf53_1 : decode cJ9_floorMod_7cf53 1 = .ok (.iload_n 1, 1) := by decide +kernel
theorem dJ9_floorMod_7cf53_2 : decode cJ9_floorMod_7cf53 2 = .ok (.irem, 1) := by decide +kernel
theorem dJ9_floorMod_7cf53_3 : decode cJ9_floorMod_7cf53 3 = .ok (.istore_n 2, 1) := by decide +kernel
theorem dJ9_floorMod_7cf53_4 : decode cJ9_floorMod_7cf53 4 = .ok (.iload_n 0, 1) := by decide +kernel
theorem dJ9_floorMod_7cf53_5 : decode cJ9_floorMod_7cf53 5 = .ok (.iload_n 1, 1) := by decide +kernel
theorem dJ9_floorMod_7cf53_6 : decode cJ9_floorMod_7cf53 6 = .ok (.ixor, 1) := by decide +kernel
theorem dJ9_floorMod_7cf53_7 : decode cJ9_floorMod_7cf53 7 = .ok (.ifCond .ge 11, 3) := by decide +kernel
theorem dJ9_floorMod_7cf53_10 : decode cJ9_floorMod_7cf53 10 = .ok (.iload_n 2, 1) := by decide +kernel
theorem dJ9_floorMod_7cf53_11 : decode cJ9_floorMod_7cf53 11 = .ok (.ifCond .eq 7, 3) := by decide +kernel
theorem dJ9_floorMod_7cf53_14 : decode cJ9_floorMod_7cf53 14 = .ok (.iload_n 2, 1) := by decide +kernel
theorem dJ9_floorMod_7cf53_15 : decode cJ9_floorMod_7cf53 15 = .ok (.iload_n 1, 1) := by decide +kernel
theorem dJ9_floorMod_7cf53_16 : decode cJ9_floorMod_7cf53 16 = .ok (.iadd, 1) := by decide +kernel
theorem dJ9_floorMod_7cf53_17 : decode cJ9_floorMod_7cf53 17 = .ok (.ireturn, 1) := by decide +kernel
theorem dJ9_floorMod_7cf53_18 : decode cJ9_floorMod_7cf53 18 = .ok (.iload_n 2, 1) := by decide +kernel
theorem dJ9_floorMod_7cf53_19 : decode cJ9_floorMod_7cf53 19 = .ok (.ireturn, 1) := by decide +kernel
theorem dJ9_abs_0f7a4_0 : decode cJ9_abs_0f7a4 0 = .ok (.iload_n 0, 1) := by decide +kernel
theorem dJ9_abs_0f7a4_1 : decode cJ9_abs_0f7a4 1 = .ok (.ifCond .ge 8, 3) := by decide +kernel
theorem dJ9_abs_0f7a4_4 : decode cJ9_abs_0f7a4 4 = .ok (.iload_n 0, 1) := by decide +kernel
theorem dJ9_abs_0f7a4_5 : decode cJ9_abs_0f7a4 5 = .ok (.ineg, 1) := by decide +kernel
theorem dJ9_abs_0f7a4_6 : decode cJ9_abs_0f7a4 6 = .ok (.goto 4, 3) := by decide +kernel
theorem dJ9_abs_0f7a4_9 : decode cJ9_abs_0f7a4 9 = .ok (.iload_n 0, 1) := by decide +kernel
theorem dJ9_abs_0f7a4_10 : decode cJ9_abs_0f7a4 10 = .ok (.ireturn, 1) := by decide +kernel
theorem dJ9_max_7cf53_0 : decode cJ9_max_7cf53 0 = .ok (.iload_n 0, 1) := by decide +kernel
theorem dJ9_max_7cf53_1 : decode cJ9_max_7cf53 1 = .ok (.iload_n 1, 1) := by decide +kernel
theorem dJ9_max_7cf53_2 : decode cJ9_max_7cf53 2 = .ok (.if_icmp .lt 7, 3) := by decide +kernel
theorem dJ9_max_7cf53_5 : decode cJ9_max_7cf53 5 = .ok (.iload_n 0, 1) := by decide +kernel
theorem dJ9_max_7cf53_6 : decode cJ9_max_7cf53 6 = .ok (.goto 4, 3) := by decide +kernel
theorem dJ9_max_7cf53_9 : decode cJ9_max_7cf53 9 = .ok (.iload_n 1, 1) := by decide +kernel
theorem dJ9_max_7cf53_10 : decode cJ9_max_7cf53 10 = .ok (.ireturn, 1) := by decide +kernel
theorem dJ9_min_7cf53_0 : decode cJ9_min_7cf53 0 = .ok (.iload_n 0, 1) := by decide +kernel
theorem dJ9_min_7cf53_1 : decode cJ9_min_7cf53 1 = .ok (.iload_n 1, 1) := by decide +kernel
theorem dJ9_min_7cf53_2 : decode cJ9_min_7cf53 2 = .ok (.if_icmp .gt 7, 3) := by decide +kernel
theorem dJ9_min_7cf53_5 : decode cJ9_min_7cf53 5 = .ok (.iload_n 0, 1) := by decide +kernel
theorem dJ9_min_7cf53_6 : decode cJ9_min_7cf53 6 = .ok (.goto 4, 3) := by decide +kernel
theorem dJ9_min_7cf53_9 : decode cJ9_min_7cf53 9 = .ok (.iload_n 1, 1) := by decide +kernel
theorem dJ9_min_7cf53_10 : decode cJ9_min_7cf53 10 = .ok (.ireturn, 1) := by decide +kernel
theorem dJ0_init_81219_0 : decode cJ0_init_81219 0 = .ok (.aload_n 0, 1) := by decide +kernel
theorem dJ0_init_81219_1 : decode cJ0_init_81219 1 = .ok (.aload_n 1, 1) := by decide +kernel
theorem dJ0_init_81219_2 : decode cJ0_init_81219 2 = .ok (.aconst_null, 1) := by decide +kernel
theorem dJ0_init_81219_3 : decode cJ0_init_81219 3 = .ok (.invokespecial 489, 3) := by decide +kernel
theorem dJ0_init_81219_6 : decode cJ0_init_81219 6 = .ok (.return_, 1) := by decide +kernel
theorem dJ0_length_8abf5_0 : decode cJ0_length_8abf5 0 = .ok (.aload_n 0, 1) := by decide +kernel
theorem dJ0_length_8abf5_1 : decode cJ0_length_8abf5 1 = .ok (.getfield 9, 3) := by decide +kernel
theorem dJ0_length_8abf5_4 : decode cJ0_length_8abf5 4 = .ok (.arraylength, 1) := by decide +kernel
theorem dJ0_length_8abf5_5 : decode cJ0_length_8abf5 5 = .ok (.aload_n 0, 1) := by decide +kernel
theorem dJ0_length_8abf5_6 : decode cJ0_length_8abf5 6 = .ok (.invokevirtual 335, 3) := by decide +kernel
theorem dJ0_length_8abf5_9 : decode cJ0_length_8abf5 9 = .ok (.ishr, 1) := by decide +kernel
theorem dJ0_length_8abf5_10 : decode cJ0_length_8abf5 10 = .ok (.ireturn, 1) := by decide +kernel
theorem dJ0_charAt_5068e_0 : decode cJ0_charAt_5068e 0 = .ok (.aload_n 0, 1) := by decide +kernel
theorem dJ0_charAt_5068e_1 : decode cJ0_charAt_5068e 1 = .ok (.invokevirtual 492, 3) := by decide +kernel
theorem dJ0_charAt_5068e_4 : decode cJ0_charAt_5068e 4 = .ok (.ifCond .eq 12, 3) := by decide +kernel
theorem dJ0_charAt_5068e_7 : decode cJ0_charAt_5068e 7 = .ok (.aload_n 0, 1) := by decide +kernel
theorem dJ0_charAt_5068e_8 : decode cJ0_charAt_5068e 8 = .ok (.getfield 9, 3) := by decide +kernel
theorem dJ0_charAt_5068e_11 : decode cJ0_charAt_5068e 11 = .ok (.iload_n 1, 1) := by decide +kernel
theorem dJ0_charAt_5068e_12 : decode cJ0_charAt_5068e 12 = .ok (.invokestatic 495, 3) := by decide +kernel
theorem dJ0_charAt_5068e_15 : decode cJ0_charAt_5068e 15 = .ok (.ireturn, 1) := by decide +kernel
theorem dJ0_charAt_5068e_16 : decode cJ0_charAt_5068e 16 = .ok (.aload_n 0, 1) := by decide +kernel
theorem dJ0_charAt_5068e_17 : decode cJ0_charAt_5068e 17 = .ok (.getfield 9, 3) := by decide +kernel
theorem dJ0_charAt_5068e_20 : decode cJ0_charAt_5068e 20 = .ok (.iload_n 1, 1) := by decide +kernel
theorem dJ0_charAt_5068e_21 : decode cJ0_charAt_5068e 21 = .ok (.invokestatic 498, 3) := by decide +kernel
theorem dJ0_charAt_5068e_24 : decode cJ0_charAt_5068e 24 = .ok (.ireturn, 1) := by decide +kernel
theorem dJ0_getBytes_840e7_0 : decode cJ0_getBytes_840e7 0 = .ok (.aload_n 0, 1) := by decide +kernel
theorem dJ0_getBytes_840e7_1 : decode cJ0_getBytes_840e7 1 = .ok (.invokevirtual 335, 3) := by decide +kernel
theorem dJ0_getBytes_840e7_4 : decode cJ0_getBytes_840e7 4 = .ok (.iload_n 3, 1) := by decide +kernel
theorem dJ0_getBytes_840e7_5 : decode cJ0_getBytes_840e7 5 = .ok (.if_icmp .ne 23, 3) := by decide +kernel
theorem dJ0_getBytes_840e7_8 : decode cJ0_getBytes_840e7 8 = .ok (.aload_n 0, 1) := by decide +kernel
theorem dJ0_getBytes_840e7_9 : decode cJ0_getBytes_840e7 9 = .ok (.getfield 9, 3) := by decide +kernel
theorem dJ0_getBytes_840e7_12 : decode cJ0_getBytes_840e7 12 = .ok (.iconst 0, 1) := by decide +kernel
theorem dJ0_getBytes_840e7_13 : decode cJ0_getBytes_840e7 13 = .ok (.aload_n 1, 1) := by decide +kernel
theorem dJ0_getBytes_840e7_14 : decode cJ0_getBytes_840e7 14 = .ok (.iload_n 2, 1) := by decide +kernel
theorem dJ0_getBytes_840e7_15 : decode cJ0_getBytes_840e7 15 = .ok (.iload_n 3, 1) := by decide +kernel
theorem dJ0_getBytes_840e7_16 : decode cJ0_getBytes_840e7 16 = .ok (.ishl, 1) := by decide +kernel
theorem dJ0_getBytes_840e7_17 : decode cJ0_getBytes_840e7 17 = .ok (.aload_n 0, 1) := by decide +kernel
theorem dJ0_getBytes_840e7_18 : decode cJ0_getBytes_840e7 18 = .ok (.getfield 9, 3) := by decide +kernel
theorem dJ0_getBytes_840e7_21 : decode cJ0_getBytes_840e7 21 = .ok (.arraylength, 1) := by decide +kernel
theorem dJ0_getBytes_840e7_22 : decode cJ0_getBytes_840e7 22 = .ok (.invokestatic 212, 3) := by decide +kernel
theorem dJ0_getBytes_840e7_25 : decode cJ0_getBytes_840e7 25 = .ok (.goto 18, 3) := by decide +kernel
theorem dJ0_getBytes_840e7_28 : decode cJ0_getBytes_840e7 28 = .ok (.aload_n 0, 1) := by decide +kernel
theorem dJ0_getBytes_840e7_29 : decode cJ0_getBytes_840e7 29 = .ok (.getfield 9, 3) := by decide +kernel
theorem dJ0_getBytes_840e7_32 : decode cJ0_getBytes_840e7 32 = .ok (.iconst 0, 1) := by decide +kernel
theorem dJ0_getBytes_840e7_33 : decode cJ0_getBytes_840e7 33 = .ok (.aload_n 1, 1) := by decide +kernel
theorem dJ0_getBytes_840e7_34 : decode cJ0_getBytes_840e7 34 = .ok (.iload_n 2, 1) := by decide +kernel
theorem dJ0_getBytes_840e7_35 : decode cJ0_getBytes_840e7 35 = .ok (.aload_n 0, 1) := by decide +kernel
theorem dJ0_getBytes_840e7_36 : decode cJ0_getBytes_840e7 36 = .ok (.getfield 9, 3) := by decide +kernel
theorem dJ0_getBytes_840e7_39 : decode cJ0_getBytes_840e7 39 = .ok (.arraylength, 1) := by decide +kernel
theorem dJ0_getBytes_840e7_40 : decode cJ0_getBytes_840e7 40 = .ok (.invokestatic 106, 3) := by decide +kernel
theorem dJ0_getBytes_840e7_43 : decode cJ0_getBytes_840e7 43 = .ok (.return_, 1) := by decide +kernel
theorem dJ0_init_db425_0 : decode cJ0_init_db425 0 = .ok (.aload_n 0, 1) := by decide +kernel
theorem dJ0_init_db425_1 : decode cJ0_init_db425 1 = .ok (.invokespecial 1, 3) := by decide +kernel
theorem dJ0_init_db425_4 : decode cJ0_init_db425 4 = .ok (.aload_n 1, 1) := by decide +kernel
theorem dJ0_init_db425_5 : decode cJ0_init_db425 5 = .ok (.invokevirtual 552, 3) := by decide +kernel
theorem dJ0_init_db425_8 : decode cJ0_init_db425 8 = .ok (.astore_n 3, 1) := by decide +kernel
theorem dJ0_init_db425_9 : decode cJ0_init_db425 9 = .ok (.aload_n 1, 1) := by decide +kernel
theorem dJ0_init_db425_10 : decode cJ0_init_db425 10 = .ok (.invokevirtual 549, 3) := by decide +kernel
theorem dJ0_init_db425_13 : decode cJ0_init_db425 13 = .ok (.istore 4, 2) := by decide +kernel
theorem dJ0_init_db425_15 : decode cJ0_init_db425 15 = .ok (.aload_n 1, 1) := by decide +kernel
theorem dJ0_init_db425_16 : decode cJ0_init_db425 16 = .ok (.invokevirtual 1047, 3) := by decide +kernel
theorem dJ0_init_db425_19 : decode cJ0_init_db425 19 = .ok (.ifCond .eq 22, 3) := by decide +kernel
theorem dJ0_init_db425_22 : decode cJ0_init_db425 22 = .ok (.aload_n 0, 1) := by decide +kernel
theorem dJ0_init_db425_23 : decode cJ0_init_db425 23 = .ok (.iconst 0, 1) := by decide +kernel
theorem dJ0_init_db425_24 : decode cJ0_init_db425 24 = .ok (.putfield 15, 3) := by decide +kernel
theorem dJ0_init_db425_27 : decode cJ0_init_db425 27 = .ok (.aload_n 0, 1) := by decide +kernel
theorem dJ0_init_db425_28 : decode cJ0_init_db425 28 = .ok (.aload_n 3, 1) := by decide +kernel
theorem dJ0_init_db425_29 : decode cJ0_init_db425 29 = .ok (.iconst 0, 1) := by decide +kernel
theorem dJ0_init_db425_30 : decode cJ0_init_db425 30 = .ok (.iload 4, 2) := by decide +kernel
theorem dJ0_init_db425_32 : decode cJ0_init_db425 32 = .ok (.invokestatic 54, 3) := by decide +kernel
theorem dJ0_init_db425_35 : decode cJ0_init_db425 35 = .ok (.putfield 9, 3) := by decide +kernel
theorem dJ0_init_db425_38 : decode cJ0_init_db425 38 = .ok (.goto 59, 3) := by decide +kernel
theorem dJ0_init_db425_41 : decode cJ0_init_db425 41 = .ok (.getstatic 38, 3) := by decide +kernel
theorem dJ0_init_db425_44 : decode cJ0_init_db425 44 = .ok (.ifCond .eq 35, 3) := by decide +kernel
theorem dJ0_init_db425_47 : decode cJ0_init_db425 47 = .ok (.aload_n 1, 1) := by decide +kernel
theorem dJ0_init_db425_48 : decode cJ0_init_db425 48 = .ok (.getfield 1048, 3) := by decide +kernel
theorem dJ0_init_db425_51 : decode cJ0_init_db425 51 = .ok (.ifCond .eq 28, 3) := by decide +kernel
theorem dJ0_init_db425_54 : decode cJ0_init_db425 54 = .ok (.aload_n 0, 1) := by decide +kernel
theorem dJ0_init_db425_55 : decode cJ0_init_db425 55 = .ok (.aload_n 3, 1) := by decide +kernel
theorem dJ0_init_db425_56 : decode cJ0_init_db425 56 = .ok (.iconst 0, 1) := by decide +kernel
theorem dJ0_init_db425_57 : decode cJ0_init_db425 57 = .ok (.iload 4, 2) := by decide +kernel
theorem dJ0_init_db425_59 : decode cJ0_init_db425 59 = .ok (.invokestatic 1051, 3) := by decide +kernel
theorem dJ0_init_db425_62 : decode cJ0_init_db425 62 = .ok (.putfield 9, 3) := by decide +kernel
theorem dJ0_init_db425_65 : decode cJ0_init_db425 65 = .ok (.aload_n 0, 1) := by decide +kernel
theorem dJ0_init_db425_66 : decode cJ0_init_db425 66 = .ok (.aload_n 0, 1) := by decide +kernel
theorem dJ0_init_db425_67 : decode cJ0_init_db425 67 = .ok (.getfield 9, 3) := by decide +kernel
theorem dJ0_init_db425_70 : decode cJ0_init_db425 70 = .ok (.iload 4, 2) := by decide +kernel
theorem dJ0_init_db425_72 : decode cJ0_init_db425 72 = .ok (.invokestatic 47, 3) := by decide +kernel
theorem dJ0_init_db425_75 : decode cJ0_init_db425 75 = .ok (.putfield 15, 3) := by decide +kernel
theorem dJ0_init_db425_78 : decode cJ0_init_db425 78 = .ok (.return_, 1) := by decide +kernel
theorem dJ0_init_db425_79 : decode cJ0_init_db425 79 = .ok (.aload_n 0, 1) := by decide +kernel
theorem dJ0_init_db425_80 : decode cJ0_init_db425 80 = .ok (.iconst 1, 1) := by decide +kernel
theorem dJ0_init_db425_81 : decode cJ0_init_db425 81 = .ok (.putfield 15, 3) := by decide +kernel
theorem dJ0_init_db425_84 : decode cJ0_init_db425 84 = .ok (.aload_n 0, 1) := by decide +kernel
theorem dJ0_init_db425_85 : decode cJ0_init_db425 85 = .ok (.aload_n 3, 1) := by decide +kernel
theorem dJ0_init_db425_86 : decode cJ0_init_db425 86 = .ok (.iconst 0, 1) := by decide +kernel
theorem dJ0_init_db425_87 : decode cJ0_init_db425 87 = .ok (.iload 4, 2) := by decide +kernel
theorem dJ0_init_db425_89 : decode cJ0_init_db425 89 = .ok (.iconst 1, 1) := by decide +kernel
theorem dJ0_init_db425_90 : decode cJ0_init_db425 90 = .ok (.ishl, 1) := by decide +kernel
theorem dJ0_init_db425_91 : decode cJ0_init_db425 91 = .ok (.invokestatic 54, 3) := by decide +kernel
theorem dJ0_init_db425_94 : decode cJ0_init_db425 94 = .ok (.putfield 9, 3) := by decide +kernel
theorem dJ0_init_db425_97 : decode cJ0_init_db425 97 = .ok (.return_, 1) := by decide +kernel
theorem dJ0_coder_7d493_0 : decode cJ0_coder_7d493 0 = .ok (.getstatic 38, 3) := by decide +kernel
theorem dJ0_coder_7d493_3 : decode cJ0_coder_7d493 3 = .ok (.ifCond .eq 10, 3) := by decide +kernel
theorem dJ0_coder_7d493_6 : decode cJ0_coder_7d493 6 = .ok (.aload_n 0, 1) := by decide +kernel
theorem dJ0_coder_7d493_7 : decode cJ0_coder_7d493 7 = .ok (.getfield 15, 3) := by decide +kernel
theorem dJ0_coder_7d493_10 : decode cJ0_coder_7d493 10 = .ok (.goto 4, 3) := by decide +kernel
theorem dJ0_coder_7d493_13 : decode cJ0_coder_7d493 13 = .ok (.iconst 1, 1) := by decide +kernel
theorem dJ0_coder_7d493_14 : decode cJ0_coder_7d493 14 = .ok (.ireturn, 1) := by decide +kernel
theorem dJ0_isLatin1_aae02_0 : decode cJ0_isLatin1_aae02 0 = .ok (.getstatic 38, 3) := by decide +kernel
theorem dJ0_isLatin1_aae02_3 : decode cJ0_isLatin1_aae02 3 = .ok (.ifCond .eq 14, 3) := by decide +kernel
theorem dJ0_isLatin1_aae02_6 : decode cJ0_isLatin1_aae02 6 = .ok (.aload_n 0, 1) := by decide +kernel
theorem dJ0_isLatin1_aae02_7 : decode cJ0_isLatin1_aae02 7 = .ok (.getfield 15, 3) := by decide +kernel
theorem dJ0_isLatin1_aae02_10 : decode cJ0_isLatin1_aae02 10 = .ok (.ifCond .ne 7, 3) := by decide +kernel
theorem dJ0_isLatin1_aae02_13 : decode cJ0_isLatin1_aae02 13 = .ok (.iconst 1, 1) := by decide +kernel
theorem dJ0_isLatin1_aae02_14 : decode cJ0_isLatin1_aae02 14 = .ok (.goto 4, 3) := by decide +kernel
theorem dJ0_isLatin1_aae02_17 : decode cJ0_isLatin1_aae02 17 = .ok (.iconst 0, 1) := by decide +kernel
theorem dJ0_isLatin1_aae02_18 : decode cJ0_isLatin1_aae02 18 = .ok (.ireturn, 1) := by decide +kernel
theorem dJ0_checkIndex_df160_0 : decode cJ0_checkIndex_df160 0 = .ok (.iload_n 0, 1) := by decide +kernel
theorem dJ0_checkIndex_df160_1 : decode cJ0_checkIndex_df160 1 = .ok (.iload_n 1, 1) := by decide +kernel
theorem dJ0_checkIndex_df160_2 : decode cJ0_checkIndex_df160 2 = .ok (.getstatic 1053, 3) := by decide +kernel
theorem dJ0_checkIndex_df160_5 : decode cJ0_checkIndex_df160 5 = .ok (.invokestatic 1059, 3) := by decide +kernel
theorem dJ0_checkIndex_df160_8 : decode cJ0_checkIndex_df160 8 = .ok (.pop, 1) := by decide +kernel
theorem dJ0_checkIndex_df160_9 : decode cJ0_checkIndex_df160 9 = .ok (.return_, 1) := by decide +kernel
theorem dJ0_checkBoundsOffCount_cabcc_0 : decode cJ0_checkBoundsOffCount_cabcc 0 = .ok (.iload_n 0, 1) := by decide +kernel
theorem dJ0_checkBoundsOffCount_cabcc_1 : decode cJ0_checkBoundsOffCount_cabcc 1 = .ok (.iload_n 1, 1) := by decide +kernel
theorem dJ0_checkBoundsOffCount_cabcc_2 : decode cJ0_checkBoundsOffCount_cabcc 2 = .ok (.iload_n 2, 1) := by decide +kernel
theorem dJ0_checkBoundsOffCount_cabcc_3 : decode cJ0_checkBoundsOffCount_cabcc 3 = .ok (.getstatic 1053, 3) := by decide +kernel
theorem dJ0_checkBoundsOffCount_cabcc_6 : decode cJ0_checkBoundsOffCount_cabcc 6 = .ok (.invokestatic 1065, 3) := by decide +kernel
theorem dJ0_checkBoundsOffCount_cabcc_9 : decode cJ0_checkBoundsOffCount_cabcc 9 = .ok (.ireturn, 1) := by decide +kernel
theorem dJ0_checkBoundsBeginEnd_23922_0 : decode cJ0_checkBoundsBeginEnd_23922 0 = .ok (.iload_n 0, 1) := by decide +kernel
theorem dJ0_checkBoundsBeginEnd_23922_1 : decode cJ0_checkBoundsBeginEnd_23922 1 = .ok (.iload_n 1, 1) := by decide +kernel
theorem dJ0_checkBoundsBeginEnd_23922_2 : decode cJ0_checkBoundsBeginEnd_23922 2 = .ok (.iload_n 2, 1) := by decide +kernel
theorem dJ0_checkBoundsBeginEnd_23922_3 : decode cJ0_checkBoundsBeginEnd_23922 3 = .ok (.getstatic 1053, 3) := by decide +kernel
theorem dJ0_checkBoundsBeginEnd_23922_6 : decode cJ0_checkBoundsBeginEnd_23922 6 = .ok (.invokestatic 1062, 3) := by decide +kernel
theorem dJ0_checkBoundsBeginEnd_23922_9 : decode cJ0_checkBoundsBeginEnd_23922 9 = .ok (.pop, 1) := by decide +kernel
theorem dJ0_checkBoundsBeginEnd_23922_10 : decode cJ0_checkBoundsBeginEnd_23922 10 = .ok (.return_, 1) := by decide +kernel
theorem dJ4_init_da8c8_0 : decode cJ4_init_da8c8 0 = .ok (.aload_n 0, 1) := by decide +kernel
theorem dJ4_init_da8c8_1 : decode cJ4_init_da8c8 1 = .ok (.bipush 16, 2) := by decide +kernel
theorem dJ4_init_da8c8_3 : decode cJ4_init_da8c8 3 = .ok (.invokespecial 1, 3) := by decide +kernel
theorem dJ4_init_da8c8_6 : decode cJ4_init_da8c8 6 = .ok (.return_, 1) := by decide +kernel
theorem dJ4_init_a7421_0 : decode cJ4_init_a7421 0 = .ok (.aload_n 0, 1) := by decide +kernel
theorem dJ4_init_a7421_1 : decode cJ4_init_a7421 1 = .ok (.aload_n 1, 1) := by decide +kernel
theorem dJ4_init_a7421_2 : decode cJ4_init_a7421 2 = .ok (.invokespecial 7, 3) := by decide +kernel
theorem dJ4_init_a7421_5 : decode cJ4_init_a7421 5 = .ok (.return_, 1) := by decide +kernel
theorem dJ4_append_15ec4_0 : decode cJ4_append_15ec4 0 = .ok (.aload_n 0, 1) := by decide +kernel
theorem dJ4_append_15ec4_1 : decode cJ4_append_15ec4 1 = .ok (.aload_n 1, 1) := by decide +kernel
theorem dJ4_append_15ec4_2 : decode cJ4_append_15ec4 2 = .ok (.invokespecial 29, 3) := by decide +kernel
theorem dJ4_append_15ec4_5 : decode cJ4_append_15ec4 5 = .ok (.pop, 1) := by decide +kernel
theorem dJ4_append_15ec4_6 : decode cJ4_append_15ec4 6 = .ok (.aload_n 0, 1) := by decide +kernel
theorem dJ4_append_15ec4_7 : decode cJ4_append_15ec4 7 = .ok (.areturn, 1) := by decide +kernel
theorem dJ4_append_cf468_0 : decode cJ4_append_cf468 0 = .ok (.aload_n 0, 1) := by decide +kernel
theorem dJ4_append_cf468_1 : decode cJ4_append_cf468 1 = .ok (.iload_n 1, 1) := by decide +kernel
theorem dJ4_append_cf468_2 : decode cJ4_append_cf468 2 = .ok (.invokespecial 50, 3) := by decide +kernel
theorem dJ4_append_cf468_5 : decode cJ4_append_cf468 5 = .ok (.pop, 1) := by decide +kernel
theorem dJ4_append_cf468_6 : decode cJ4_append_cf468 6 = .ok (.aload_n 0, 1) := by decide +kernel
theorem dJ4_append_cf468_7 : decode cJ4_append_cf468 7 = .ok (.areturn, 1) := by decide +kernel
theorem dJ4_append_bf812_0 : decode cJ4_append_bf812 0 = .ok (.aload_n 0, 1) := by decide +kernel
theorem dJ4_append_bf812_1 : decode cJ4_append_bf812 1 = .ok (.iload_n 1, 1) := by decide +kernel
theorem dJ4_append_bf812_2 : decode cJ4_append_bf812 2 = .ok (.invokespecial 53, 3) := by decide +kernel
theorem dJ4_append_bf812_5 : decode cJ4_append_bf812 5 = .ok (.pop, 1) := by decide +kernel
theorem dJ4_append_bf812_6 : decode cJ4_append_bf812 6 = .ok (.aload_n 0, 1) := by decide +kernel
theorem dJ4_append_bf812_7 : decode cJ4_append_bf812 7 = .ok (.areturn, 1) := by decide +kernel
theorem dJ4_toString_0e30d_0 : decode cJ4_toString_0e30d 0 = .ok (.new 18, 3) := by decide +kernel
theorem dJ4_toString_0e30d_3 : decode cJ4_toString_0e30d 3 = .ok (.dup, 1) := by decide +kernel
theorem dJ4_toString_0e30d_4 : decode cJ4_toString_0e30d 4 = .ok (.aload_n 0, 1) := by decide +kernel
theorem dJ4_toString_0e30d_5 : decode cJ4_toString_0e30d 5 = .ok (.invokespecial 137, 3) := by decide +kernel
theorem dJ4_toString_0e30d_8 : decode cJ4_toString_0e30d 8 = .ok (.areturn, 1) := by decide +kernel
theorem dJ4_append_cf1ce_0 : decode cJ4_append_cf1ce 0 = .ok (.aload_n 0, 1) := by decide +kernel
theorem dJ4_append_cf1ce_1 : decode cJ4_append_cf1ce 1 = .ok (.aload_n 1, 1) := by decide +kernel
theorem dJ4_append_cf1ce_2 : decode cJ4_append_cf1ce 2 = .ok (.invokevirtual 23, 3) := by decide +kernel
theorem dJ4_append_cf1ce_5 : decode cJ4_append_cf1ce 5 = .ok (.areturn, 1) := by decide +kernel
theorem dJ4_length_8abf5_0 : decode cJ4_length_8abf5 0 = .ok (.aload_n 0, 1) := by decide +kernel
theorem dJ4_length_8abf5_1 : decode cJ4_length_8abf5 1 = .ok (.invokespecial 343, 3) := by decide +kernel
theorem dJ4_length_8abf5_4 : decode cJ4_length_8abf5 4 = .ok (.ireturn, 1) := by decide +kernel
theorem dJ1_charAt_3b067_0 : decode cJ1_charAt_3b067 0 = .ok (.iload_n 1, 1) := by decide +kernel
theorem dJ1_charAt_3b067_1 : decode cJ1_charAt_3b067 1 = .ok (.aload_n 0, 1) := by decide +kernel
theorem dJ1_charAt_3b067_2 : decode cJ1_charAt_3b067 2 = .ok (.arraylength, 1) := by decide +kernel
theorem dJ1_charAt_3b067_3 : decode cJ1_charAt_3b067 3 = .ok (.invokestatic 9, 3) := by decide +kernel
theorem dJ1_charAt_3b067_6 : decode cJ1_charAt_3b067 6 = .ok (.aload_n 0, 1) := by decide +kernel
theorem dJ1_charAt_3b067_7 : decode cJ1_charAt_3b067 7 = .ok (.iload_n 1, 1) := by decide +kernel
theorem dJ1_charAt_3b067_8 : decode cJ1_charAt_3b067 8 = .ok (.baload, 1) := by decide +kernel
theorem dJ1_charAt_3b067_9 : decode cJ1_charAt_3b067 9 = .ok (.sipush 255, 3) := by decide +kernel
theorem dJ1_charAt_3b067_12 : decode cJ1_charAt_3b067 12 = .ok (.iand, 1) := by decide +kernel
theorem dJ1_charAt_3b067_13 : decode cJ1_charAt_3b067 13 = .ok (.i2c, 1) := by decide +kernel
theorem dJ1_charAt_3b067_14 : decode cJ1_charAt_3b067 14 = .ok (.ireturn, 1) := by decide +kernel
theorem dJ1_canEncode_fc78d_0 : decode cJ1_canEncode_fc78d 0 = .ok (.iload_n 0, 1) := by decide +kernel
theorem dJ1_canEncode_fc78d_1 : decode cJ1_canEncode_fc78d 1 = .ok (.sipush 255, 3) := by decide +kernel
theorem dJ1_canEncode_fc78d_4 : decode cJ1_canEncode_fc78d 4 = .ok (.if_icmp .gt 7, 3) := by decide +kernel
theorem dJ1_canEncode_fc78d_7 : decode cJ1_canEncode_fc78d 7 = .ok (.iconst 1, 1) := by decide +kernel
theorem dJ1_canEncode_fc78d_8 : decode cJ1_canEncode_fc78d 8 = .ok (.goto 4, 3) := by decide +kernel
theorem dJ1_canEncode_fc78d_11 : decode cJ1_canEncode_fc78d 11 = .ok (.iconst 0, 1) := by decide +kernel
theorem dJ1_canEncode_fc78d_12 : decode cJ1_canEncode_fc78d 12 = .ok (.ireturn, 1) := by decide +kernel
theorem dJ1_inflate_0e8fd_0 : decode cJ1_inflate_0e8fd 0 = .ok (.aload_n 0, 1) := by decide +kernel
theorem dJ1_inflate_0e8fd_1 : decode cJ1_inflate_0e8fd 1 = .ok (.iload_n 1, 1) := by decide +kernel
theorem dJ1_inflate_0e8fd_2 : decode cJ1_inflate_0e8fd 2 = .ok (.aload_n 2, 1) := by decide +kernel
theorem dJ1_inflate_0e8fd_3 : decode cJ1_inflate_0e8fd 3 = .ok (.iload_n 3, 1) := by decide +kernel
theorem dJ1_inflate_0e8fd_4 : decode cJ1_inflate_0e8fd 4 = .ok (.iload 4, 2) := by decide +kernel
theorem dJ1_inflate_0e8fd_6 : decode cJ1_inflate_0e8fd 6 = .ok (.invokestatic 240, 3) := by decide +kernel
theorem dJ1_inflate_0e8fd_9 : decode cJ1_inflate_0e8fd 9 = .ok (.return_, 1) := by decide +kernel
theorem dJ2_newBytesFor_77867_0 : decode cJ2_newBytesFor_77867 0 = .ok (.iload_n 0, 1) := by decide +kernel
theorem dJ2_newBytesFor_77867_1 : decode cJ2_newBytesFor_77867 1 = .ok (.invokestatic 11, 3) := by decide +kernel
theorem dJ2_newBytesFor_77867_4 : decode cJ2_newBytesFor_77867 4 = .ok (.newarray .byte, 2) := by decide +kernel
theorem dJ2_newBytesFor_77867_6 : decode cJ2_newBytesFor_77867 6 = .ok (.areturn, 1) := by decide +kernel
theorem dJ2_newBytesLength_0f7a4_0 : decode cJ2_newBytesLength_0f7a4 0 = .ok (.iload_n 0, 1) := by decide +kernel
theorem dJ2_newBytesLength_0f7a4_1 : decode cJ2_newBytesLength_0f7a4 1 = .ok (.ifCond .ge 11, 3) := by decide +kernel
theorem dJ2_newBytesLength_0f7a4_4 : decode cJ2_newBytesLength_0f7a4 4 = .ok (.new 17, 3) := by decide +kernel
theorem dJ2_newBytesLength_0f7a4_7 : decode cJ2_newBytesLength_0f7a4 7 = .ok (.dup, 1) := by decide +kernel
theorem dJ2_newBytesLength_0f7a4_8 : decode cJ2_newBytesLength_0f7a4 8 = .ok (.invokespecial 19, 3) := by decide +kernel
theorem dJ2_newBytesLength_0f7a4_11 : decode cJ2_newBytesLength_0f7a4 11 = .ok (.athrow, 1) := by decide +kernel
theorem dJ2_newBytesLength_0f7a4_12 : decode cJ2_newBytesLength_0f7a4 12 = .ok (.iload_n 0, 1) := by decide +kernel
theorem dJ2_newBytesLength_0f7a4_13 : decode cJ2_newBytesLength_0f7a4 13 = .ok (.ldc 20, 2) := by decide +kernel
theorem dJ2_newBytesLength_0f7a4_15 : decode cJ2_newBytesLength_0f7a4 15 = .ok (.if_icmp .lt 40, 3) := by decide +kernel
theorem dJ2_newBytesLength_0f7a4_18 : decode cJ2_newBytesLength_0f7a4 18 = .ok (.new 21, 3) := by decide +kernel
theorem dJ2_newBytesLength_0f7a4_21 : decode cJ2_newBytesLength_0f7a4 21 = .ok (.dup, 1) := by decide +kernel
theorem dJ2_newBytesLength_0f7a4_22 : decode cJ2_newBytesLength_0f7a4 22 = .ok (.new 23, 3) := by decide +kernel
theorem dJ2_newBytesLength_0f7a4_25 : decode cJ2_newBytesLength_0f7a4 25 = .ok (.dup, 1) := by decide +kernel
theorem dJ2_newBytesLength_0f7a4_26 : decode cJ2_newBytesLength_0f7a4 26 = .ok (.invokespecial 25, 3) := by decide +kernel
theorem dJ2_newBytesLength_0f7a4_29 : decode cJ2_newBytesLength_0f7a4 29 = .ok (.ldc 26, 2) := by decide +kernel
theorem dJ2_newBytesLength_0f7a4_31 : decode cJ2_newBytesLength_0f7a4 31 = .ok (.invokevirtual 28, 3) := by decide +kernel
theorem dJ2_newBytesLength_0f7a4_34 : decode cJ2_newBytesLength_0f7a4 34 = .ok (.iload_n 0, 1) := by decide +kernel
theorem dJ2_newBytesLength_0f7a4_35 : decode cJ2_newBytesLength_0f7a4 35 = .ok (.invokevirtual 32, 3) := by decide +kernel
theorem dJ2_newBytesLength_0f7a4_38 : decode cJ2_newBytesLength_0f7a4 38 = .ok (.ldc 35, 2) := by decide +kernel
theorem dJ2_newBytesLength_0f7a4_40 : decode cJ2_newBytesLength_0f7a4 40 = .ok (.invokevirtual 28, 3) := by decide +kernel
theorem dJ2_newBytesLength_0f7a4_43 : decode cJ2_newBytesLength_0f7a4 43 = .ok (.ldc 20, 2) := by decide +kernel
theorem dJ2_newBytesLength_0f7a4_45 : decode cJ2_newBytesLength_0f7a4 45 = .ok (.invokevirtual 32, 3) := by decide +kernel
theorem dJ2_newBytesLength_0f7a4_48 : decode cJ2_newBytesLength_0f7a4 48 = .ok (.invokevirtual 37, 3) := by decide +kernel
theorem dJ2_newBytesLength_0f7a4_51 : decode cJ2_newBytesLength_0f7a4 51 = .ok (.invokespecial 41, 3) := by decide +kernel
theorem dJ2_newBytesLength_0f7a4_54 : decode cJ2_newBytesLength_0f7a4 54 = .ok (.athrow, 1) := by decide +kernel
theorem dJ2_newBytesLength_0f7a4_55 : decode cJ2_newBytesLength_0f7a4 55 = .ok (.iload_n 0, 1) := by decide +kernel
theorem dJ2_newBytesLength_0f7a4_56 : decode cJ2_newBytesLength_0f7a4 56 = .ok (.iconst 1, 1) := by decide +kernel
theorem dJ2_newBytesLength_0f7a4_57 : decode cJ2_newBytesLength_0f7a4 57 = .ok (.ishl, 1) := by decide +kernel
theorem dJ2_newBytesLength_0f7a4_58 : decode cJ2_newBytesLength_0f7a4 58 = .ok (.ireturn, 1) := by decide +kernel
theorem dJ2_putChar_b72d1_0 : decode cJ2_putChar_b72d1 0 = .ok (.getstatic 44, 3) := by decide +kernel
theorem dJ2_putChar_b72d1_3 : decode cJ2_putChar_b72d1 3 = .ok (.ifCond .ne 25, 3) := by decide +kernel
theorem dJ2_putChar_b72d1_6 : decode cJ2_putChar_b72d1 6 = .ok (.iload_n 1, 1) := by decide +kernel
theorem dJ2_putChar_b72d1_7 : decode cJ2_putChar_b72d1 7 = .ok (.ifCond .lt 11, 3) := by decide +kernel
theorem dJ2_putChar_b72d1_10 : decode cJ2_putChar_b72d1 10 = .ok (.iload_n 1, 1) := by decide +kernel
theorem dJ2_putChar_b72d1_11 : decode cJ2_putChar_b72d1 11 = .ok (.aload_n 0, 1) := by decide +kernel
theorem dJ2_putChar_b72d1_12 : decode cJ2_putChar_b72d1 12 = .ok (.invokestatic 48, 3) := by decide +kernel
theorem dJ2_putChar_b72d1_15 : decode cJ2_putChar_b72d1 15 = .ok (.if_icmp .lt 13, 3) := by decide +kernel
theorem dJ2_putChar_b72d1_18 : decode cJ2_putChar_b72d1 18 = .ok (.new 52, 3) := by decide +kernel
theorem dJ2_putChar_b72d1_21 : decode cJ2_putChar_b72d1 21 = .ok (.dup, 1) := by decide +kernel
theorem dJ2_putChar_b72d1_22 : decode cJ2_putChar_b72d1 22 = .ok (.ldc 54, 2) := by decide +kernel
theorem dJ2_putChar_b72d1_24 : decode cJ2_putChar_b72d1 24 = .ok (.invokespecial 56, 3) := by decide +kernel
theorem dJ2_putChar_b72d1_27 : decode cJ2_putChar_b72d1 27 = .ok (.athrow, 1) := by decide +kernel
theorem dJ2_putChar_b72d1_28 : decode cJ2_putChar_b72d1 28 = .ok (.iload_n 1, 1) := by decide +kernel
theorem dJ2_putChar_b72d1_29 : decode cJ2_putChar_b72d1 29 = .ok (.iconst 1, 1) := by decide +kernel
theorem dJ2_putChar_b72d1_30 : decode cJ2_putChar_b72d1 30 = .ok (.ishl, 1) := by decide +kernel
theorem dJ2_putChar_b72d1_31 : decode cJ2_putChar_b72d1 31 = .ok (.istore_n 1, 1) := by decide +kernel
theorem dJ2_putChar_b72d1_32 : decode cJ2_putChar_b72d1 32 = .ok (.aload_n 0, 1) := by decide +kernel
theorem dJ2_putChar_b72d1_33 : decode cJ2_putChar_b72d1 33 = .ok (.iload_n 1, 1) := by decide +kernel
theorem dJ2_putChar_b72d1_34 : decode cJ2_putChar_b72d1 34 = .ok (.iinc 1 1, 3) := by decide +kernel
theorem dJ2_putChar_b72d1_37 : decode cJ2_putChar_b72d1 37 = .ok (.iload_n 2, 1) := by decide +kernel
theorem dJ2_putChar_b72d1_38 : decode cJ2_putChar_b72d1 38 = .ok (.getstatic 59, 3) := by decide +kernel
theorem dJ2_putChar_b72d1_41 : decode cJ2_putChar_b72d1 41 = .ok (.ishr, 1) := by decide +kernel
theorem dJ2_putChar_b72d1_42 : decode cJ2_putChar_b72d1 42 = .ok (.i2b, 1) := by decide +kernel
theorem dJ2_putChar_b72d1_43 : decode cJ2_putChar_b72d1 43 = .ok (.bastore, 1) := by decide +kernel
theorem dJ2_putChar_b72d1_44 : decode cJ2_putChar_b72d1 44 = .ok (.aload_n 0, 1) := by decide +kernel
theorem dJ2_putChar_b72d1_45 : decode cJ2_putChar_b72d1 45 = .ok (.iload_n 1, 1) := by decide +kernel
theorem dJ2_putChar_b72d1_46 : decode cJ2_putChar_b72d1 46 = .ok (.iload_n 2, 1) := by decide +kernel
theorem dJ2_putChar_b72d1_47 : decode cJ2_putChar_b72d1 47 = .ok (.getstatic 63, 3) := by decide +kernel
theorem dJ2_putChar_b72d1_50 : decode cJ2_putChar_b72d1 50 = .ok (.ishr, 1) := by decide +kernel
theorem dJ2_putChar_b72d1_51 : decode cJ2_putChar_b72d1 51 = .ok (.i2b, 1) := by decide +kernel
theorem dJ2_putChar_b72d1_52 : decode cJ2_putChar_b72d1 52 = .ok (.bastore, 1) := by decide +kernel
theorem dJ2_putChar_b72d1_53 : decode cJ2_putChar_b72d1 53 = .ok (.return_, 1) := by decide +kernel
theorem dJ2_getChar_3b067_0 : decode cJ2_getChar_3b067 0 = .ok (.getstatic 44, 3) := by decide +kernel
theorem dJ2_getChar_3b067_3 : decode cJ2_getChar_3b067 3 = .ok (.ifCond .ne 25, 3) := by decide +kernel
theorem dJ2_getChar_3b067_6 : decode cJ2_getChar_3b067 6 = .ok (.iload_n 1, 1) := by decide +kernel
theorem dJ2_getChar_3b067_7 : decode cJ2_getChar_3b067 7 = .ok (.ifCond .lt 11, 3) := by decide +kernel
theorem dJ2_getChar_3b067_10 : decode cJ2_getChar_3b067 10 = .ok (.iload_n 1, 1) := by decide +kernel
theorem dJ2_getChar_3b067_11 : decode cJ2_getChar_3b067 11 = .ok (.aload_n 0, 1) := by decide +kernel
theorem dJ2_getChar_3b067_12 : decode cJ2_getChar_3b067 12 = .ok (.invokestatic 48, 3) := by decide +kernel
theorem dJ2_getChar_3b067_15 : decode cJ2_getChar_3b067 15 = .ok (.if_icmp .lt 13, 3) := by decide +kernel
theorem dJ2_getChar_3b067_18 : decode cJ2_getChar_3b067 18 = .ok (.new 52, 3) := by decide +kernel
theorem dJ2_getChar_3b067_21 : decode cJ2_getChar_3b067 21 = .ok (.dup, 1) := by decide +kernel
theorem dJ2_getChar_3b067_22 : decode cJ2_getChar_3b067 22 = .ok (.ldc 54, 2) := by decide +kernel
theorem dJ2_getChar_3b067_24 : decode cJ2_getChar_3b067 24 = .ok (.invokespecial 56, 3) := by decide +kernel
theorem dJ2_getChar_3b067_27 : decode cJ2_getChar_3b067 27 = .ok (.athrow, 1) := by decide +kernel
theorem dJ2_getChar_3b067_28 : decode cJ2_getChar_3b067 28 = .ok (.iload_n 1, 1) := by decide +kernel
theorem dJ2_getChar_3b067_29 : decode cJ2_getChar_3b067 29 = .ok (.iconst 1, 1) := by decide +kernel
theorem dJ2_getChar_3b067_30 : decode cJ2_getChar_3b067 30 = .ok (.ishl, 1) := by decide +kernel
theorem dJ2_getChar_3b067_31 : decode cJ2_getChar_3b067 31 = .ok (.istore_n 1, 1) := by decide +kernel
theorem dJ2_getChar_3b067_32 : decode cJ2_getChar_3b067 32 = .ok (.aload_n 0, 1) := by decide +kernel
theorem dJ2_getChar_3b067_33 : decode cJ2_getChar_3b067 33 = .ok (.iload_n 1, 1) := by decide +kernel
theorem dJ2_getChar_3b067_34 : decode cJ2_getChar_3b067 34 = .ok (.iinc 1 1, 3) := by decide +kernel
theorem dJ2_getChar_3b067_37 : decode cJ2_getChar_3b067 37 = .ok (.baload, 1) := by decide +kernel
theorem dJ2_getChar_3b067_38 : decode cJ2_getChar_3b067 38 = .ok (.sipush 255, 3) := by decide +kernel
theorem dJ2_getChar_3b067_41 : decode cJ2_getChar_3b067 41 = .ok (.iand, 1) := by decide +kernel
theorem dJ2_getChar_3b067_42 : decode cJ2_getChar_3b067 42 = .ok (.getstatic 59, 3) := by decide +kernel
theorem dJ2_getChar_3b067_45 : decode cJ2_getChar_3b067 45 = .ok (.ishl, 1) := by decide +kernel
theorem dJ2_getChar_3b067_46 : decode cJ2_getChar_3b067 46 = .ok (.aload_n 0, 1) := by decide +kernel
theorem dJ2_getChar_3b067_47 : decode cJ2_getChar_3b067 47 = .ok (.iload_n 1, 1) := by decide +kernel
theorem dJ2_getChar_3b067_48 : decode cJ2_getChar_3b067 48 = .ok (.baload, 1) := by decide +kernel
theorem dJ2_getChar_3b067_49 : decode cJ2_getChar_3b067 49 = .ok (.sipush 255, 3) := by decide +kernel
theorem dJ2_getChar_3b067_52 : decode cJ2_getChar_3b067 52 = .ok (.iand, 1) := by decide +kernel
theorem dJ2_getChar_3b067_53 : decode cJ2_getChar_3b067 53 = .ok (.getstatic 63, 3) := by decide +kernel
theorem dJ2_getChar_3b067_56 : decode cJ2_getChar_3b067 56 = .ok (.ishl, 1) := by decide +kernel
theorem dJ2_getChar_3b067_57 : decode cJ2_getChar_3b067 57 = .ok (.ior, 1) := by decide +kernel
theorem dJ2_getChar_3b067_58 : decode cJ2_getChar_3b067 58 = .ok (.i2c, 1) := by decide +kernel
theorem dJ2_getChar_3b067_59 : decode cJ2_getChar_3b067 59 = .ok (.ireturn, 1) := by decide +kernel
theorem dJ2_length_9d52b_0 : decode cJ2_length_9d52b 0 = .ok (.aload_n 0, 1) := by decide +kernel
theorem dJ2_length_9d52b_1 : decode cJ2_length_9d52b 1 = .ok (.arraylength, 1) := by decide +kernel
theorem dJ2_length_9d52b_2 : decode cJ2_length_9d52b 2 = .ok (.iconst 1, 1) := by decide +kernel
theorem dJ2_length_9d52b_3 : decode cJ2_length_9d52b 3 = .ok (.ishr, 1) := by decide +kernel
theorem dJ2_length_9d52b_4 : decode cJ2_length_9d52b 4 = .ok (.ireturn, 1) := by decide +kernel
theorem dJ2_coderFromArrayLen_85cad_0 : decode cJ2_coderFromArrayLen_85cad 0 = .ok (.iload_n 1, 1) := by decide +kernel
theorem dJ2_coderFromArrayLen_85cad_1 : decode cJ2_coderFromArrayLen_85cad 1 = .ok (.aload_n 0, 1) := by decide +kernel
theorem dJ2_coderFromArrayLen_85cad_2 : decode cJ2_coderFromArrayLen_85cad 2 = .ok (.arraylength, 1) := by decide +kernel
theorem dJ2_coderFromArrayLen_85cad_3 : decode cJ2_coderFromArrayLen_85cad 3 = .ok (.isub, 1) := by decide +kernel
theorem dJ2_coderFromArrayLen_85cad_4 : decode cJ2_coderFromArrayLen_85cad 4 = .ok (.bipush 31, 2) := by decide +kernel
theorem dJ2_coderFromArrayLen_85cad_6 : decode cJ2_coderFromArrayLen_85cad 6 = .ok (.iushr, 1) := by decide +kernel
theorem dJ2_coderFromArrayLen_85cad_7 : decode cJ2_coderFromArrayLen_85cad 7 = .ok (.i2b, 1) := by decide +kernel
theorem dJ2_coderFromArrayLen_85cad_8 : decode cJ2_coderFromArrayLen_85cad 8 = .ok (.ireturn, 1) := by decide +kernel
theorem dJ2_compress_39247_0 : decode cJ2_compress_39247 0 = .ok (.iload_n 2, 1) := by decide +kernel
theorem dJ2_compress_39247_1 : decode cJ2_compress_39247 1 = .ok (.newarray .byte, 2) := by decide +kernel
theorem dJ2_compress_39247_3 : decode cJ2_compress_39247 3 = .ok (.astore_n 3, 1) := by decide +kernel
theorem dJ2_compress_39247_4 : decode cJ2_compress_39247 4 = .ok (.aload_n 0, 1) := by decide +kernel
theorem dJ2_compress_39247_5 : decode cJ2_compress_39247 5 = .ok (.iload_n 1, 1) := by decide +kernel
theorem dJ2_compress_39247_6 : decode cJ2_compress_39247 6 = .ok (.aload_n 3, 1) := by decide +kernel
theorem dJ2_compress_39247_7 : decode cJ2_compress_39247 7 = .ok (.iconst 0, 1) := by decide +kernel
theorem dJ2_compress_39247_8 : decode cJ2_compress_39247 8 = .ok (.iload_n 2, 1) := by decide +kernel
theorem dJ2_compress_39247_9 : decode cJ2_compress_39247 9 = .ok (.invokestatic 123, 3) := by decide +kernel
theorem dJ2_compress_39247_12 : decode cJ2_compress_39247 12 = .ok (.istore 4, 2) := by decide +kernel
theorem dJ2_compress_39247_14 : decode cJ2_compress_39247 14 = .ok (.iload 4, 2) := by decide +kernel
theorem dJ2_compress_39247_16 : decode cJ2_compress_39247 16 = .ok (.iload_n 2, 1) := by decide +kernel
theorem dJ2_compress_39247_17 : decode cJ2_compress_39247 17 = .ok (.if_icmp .eq 47, 3) := by decide +kernel
theorem dJ2_compress_39247_20 : decode cJ2_compress_39247 20 = .ok (.aload_n 0, 1) := by decide +kernel
theorem dJ2_compress_39247_21 : decode cJ2_compress_39247 21 = .ok (.iload_n 1, 1) := by decide +kernel
theorem dJ2_compress_39247_22 : decode cJ2_compress_39247 22 = .ok (.iconst 1, 1) := by decide +kernel
theorem dJ2_compress_39247_23 : decode cJ2_compress_39247 23 = .ok (.ishl, 1) := by decide +kernel
theorem dJ2_compress_39247_24 : decode cJ2_compress_39247 24 = .ok (.iload_n 1, 1) := by decide +kernel
theorem dJ2_compress_39247_25 : decode cJ2_compress_39247 25 = .ok (.iload_n 2, 1) := by decide +kernel
theorem dJ2_compress_39247_26 : decode cJ2_compress_39247 26 = .ok (.iadd, 1) := by decide +kernel
theorem dJ2_compress_39247_27 : decode cJ2_compress_39247 27 = .ok (.invokestatic 11, 3) := by decide +kernel
theorem dJ2_compress_39247_30 : decode cJ2_compress_39247 30 = .ok (.invokestatic 126, 3) := by decide +kernel
theorem dJ2_compress_39247_33 : decode cJ2_compress_39247 33 = .ok (.astore 5, 2) := by decide +kernel
theorem dJ2_compress_39247_35 : decode cJ2_compress_39247 35 = .ok (.aload 5, 2) := by decide +kernel
theorem dJ2_compress_39247_37 : decode cJ2_compress_39247 37 = .ok (.iload 4, 2) := by decide +kernel
theorem dJ2_compress_39247_39 : decode cJ2_compress_39247 39 = .ok (.invokestatic 71, 3) := by decide +kernel
theorem dJ2_compress_39247_42 : decode cJ2_compress_39247 42 = .ok (.sipush 255, 3) := by decide +kernel
theorem dJ2_compress_39247_45 : decode cJ2_compress_39247 45 = .ok (.if_icmp .gt 16, 3) := by decide +kernel
theorem dJ2_compress_39247_48 : decode cJ2_compress_39247 48 = .ok (.aload 5, 2) := by decide +kernel
theorem dJ2_compress_39247_50 : decode cJ2_compress_39247 50 = .ok (.iconst 0, 1) := by decide +kernel
theorem dJ2_compress_39247_51 : decode cJ2_compress_39247 51 = .ok (.aload_n 3, 1) := by decide +kernel
theorem dJ2_compress_39247_52 : decode cJ2_compress_39247 52 = .ok (.iconst 0, 1) := by decide +kernel
theorem dJ2_compress_39247_53 : decode cJ2_compress_39247 53 = .ok (.iload_n 2, 1) := by decide +kernel
theorem dJ2_compress_39247_54 : decode cJ2_compress_39247 54 = .ok (.invokestatic 123, 3) := by decide +kernel
theorem dJ2_compress_39247_57 : decode cJ2_compress_39247 57 = .ok (.iload_n 2, 1) := by decide +kernel
theorem dJ2_compress_39247_58 : decode cJ2_compress_39247 58 = .ok (.if_icmp .eq 6, 3) := by decide +kernel
theorem dJ2_compress_39247_61 : decode cJ2_compress_39247 61 = .ok (.aload 5, 2) := by decide +kernel
theorem dJ2_compress_39247_63 : decode cJ2_compress_39247 63 = .ok (.areturn, 1) := by decide +kernel
theorem dJ2_compress_39247_64 : decode cJ2_compress_39247 64 = .ok (.aload_n 3, 1) := by decide +kernel
theorem dJ2_compress_39247_65 : decode cJ2_compress_39247 65 = .ok (.areturn, 1) := by decide +kernel
theorem dJ2_compress_5af95_0 : decode cJ2_compress_5af95 0 = .ok (.iload_n 1, 1) := by decide +kernel
theorem dJ2_compress_5af95_1 : decode cJ2_compress_5af95 1 = .ok (.iload 4, 2) := by decide +kernel
theorem dJ2_compress_5af95_3 : decode cJ2_compress_5af95 3 = .ok (.aload_n 0, 1) := by decide +kernel
theorem dJ2_compress_5af95_4 : decode cJ2_compress_5af95 4 = .ok (.invokestatic 173, 3) := by decide +kernel
theorem dJ2_compress_5af95_7 : decode cJ2_compress_5af95 7 = .ok (.iconst 0, 1) := by decide +kernel
theorem dJ2_compress_5af95_8 : decode cJ2_compress_5af95 8 = .ok (.istore 5, 2) := by decide +kernel
theorem dJ2_compress_5af95_10 : decode cJ2_compress_5af95 10 = .ok (.iload 5, 2) := by decide +kernel
theorem dJ2_compress_5af95_12 : decode cJ2_compress_5af95 12 = .ok (.iload 4, 2) := by decide +kernel
theorem dJ2_compress_5af95_14 : decode cJ2_compress_5af95 14 = .ok (.if_icmp .ge 39, 3) := by decide +kernel
theorem dJ2_compress_5af95_17 : decode cJ2_compress_5af95 17 = .ok (.aload_n 0, 1) := by decide +kernel
theorem dJ2_compress_5af95_18 : decode cJ2_compress_5af95 18 = .ok (.iload_n 1, 1) := by decide +kernel
theorem dJ2_compress_5af95_19 : decode cJ2_compress_5af95 19 = .ok (.invokestatic 71, 3) := by decide +kernel
theorem dJ2_compress_5af95_22 : decode cJ2_compress_5af95 22 = .ok (.istore 6, 2) := by decide +kernel
theorem dJ2_compress_5af95_24 : decode cJ2_compress_5af95 24 = .ok (.iload 6, 2) := by decide +kernel
theorem dJ2_compress_5af95_26 : decode cJ2_compress_5af95 26 = .ok (.sipush 255, 3) := by decide +kernel
theorem dJ2_compress_5af95_29 : decode cJ2_compress_5af95 29 = .ok (.if_icmp .le 6, 3) := by decide +kernel
theorem dJ2_compress_5af95_32 : decode cJ2_compress_5af95 32 = .ok (.iload 5, 2) := by decide +kernel
theorem dJ2_compress_5af95_34 : decode cJ2_compress_5af95 34 = .ok (.ireturn, 1) := by decide +kernel
theorem dJ2_compress_5af95_35 : decode cJ2_compress_5af95 35 = .ok (.aload_n 2, 1) := by decide +kernel
theorem dJ2_compress_5af95_36 : decode cJ2_compress_5af95 36 = .ok (.iload_n 3, 1) := by decide +kernel
theorem dJ2_compress_5af95_37 : decode cJ2_compress_5af95 37 = .ok (.iload 6, 2) := by decide +kernel
theorem dJ2_compress_5af95_39 : decode cJ2_compress_5af95 39 = .ok (.i2b, 1) := by decide +kernel
theorem dJ2_compress_5af95_40 : decode cJ2_compress_5af95 40 = .ok (.bastore, 1) := by decide +kernel
theorem dJ2_compress_5af95_41 : decode cJ2_compress_5af95 41 = .ok (.iinc 1 1, 3) := by decide +kernel
theorem dJ2_compress_5af95_44 : decode cJ2_compress_5af95 44 = .ok (.iinc 3 1, 3) := by decide +kernel
theorem dJ2_compress_5af95_47 : decode cJ2_compress_5af95 47 = .ok (.iinc 5 1, 3) := by decide +kernel
theorem dJ2_compress_5af95_50 : decode cJ2_compress_5af95 50 = .ok (.goto (-40), 3) := by decide +kernel
theorem dJ2_compress_5af95_53 : decode cJ2_compress_5af95 53 = .ok (.iload 4, 2) := by decide +kernel
theorem dJ2_compress_5af95_55 : decode cJ2_compress_5af95 55 = .ok (.ireturn, 1) := by decide +kernel
theorem dJ2_putCharSB_b72d1_0 : decode cJ2_putCharSB_b72d1 0 = .ok (.iload_n 1, 1) := by decide +kernel
theorem dJ2_putCharSB_b72d1_1 : decode cJ2_putCharSB_b72d1 1 = .ok (.aload_n 0, 1) := by decide +kernel
theorem dJ2_putCharSB_b72d1_2 : decode cJ2_putCharSB_b72d1 2 = .ok (.invokestatic 67, 3) := by decide +kernel
theorem dJ2_putCharSB_b72d1_5 : decode cJ2_putCharSB_b72d1 5 = .ok (.aload_n 0, 1) := by decide +kernel
theorem dJ2_putCharSB_b72d1_6 : decode cJ2_putCharSB_b72d1 6 = .ok (.iload_n 1, 1) := by decide +kernel
theorem dJ2_putCharSB_b72d1_7 : decode cJ2_putCharSB_b72d1 7 = .ok (.iload_n 2, 1) := by decide +kernel
theorem dJ2_putCharSB_b72d1_8 : decode cJ2_putCharSB_b72d1 8 = .ok (.invokestatic 111, 3) := by decide +kernel
theorem dJ2_putCharSB_b72d1_11 : decode cJ2_putCharSB_b72d1 11 = .ok (.return_, 1) := by decide +kernel
theorem dJ2_getChars_46870_0 : decode cJ2_getChars_46870 0 = .ok (.iload_n 1, 1) := by decide +kernel
theorem dJ2_getChars_46870_1 : decode cJ2_getChars_46870 1 = .ok (.iload_n 2, 1) := by decide +kernel
theorem dJ2_getChars_46870_2 : decode cJ2_getChars_46870 2 = .ok (.aload_n 3, 1) := by decide +kernel
theorem dJ2_getChars_46870_3 : decode cJ2_getChars_46870 3 = .ok (.invokestatic 96, 3) := by decide +kernel
theorem dJ2_getChars_46870_6 : decode cJ2_getChars_46870 6 = .ok (.iload_n 0, 1) := by decide +kernel
theorem dJ2_getChars_46870_7 : decode cJ2_getChars_46870 7 = .ok (.iload_n 2, 1) := by decide +kernel
theorem dJ2_getChars_46870_8 : decode cJ2_getChars_46870 8 = .ok (.aload_n 3, 1) := by decide +kernel
theorem dJ2_getChars_46870_9 : decode cJ2_getChars_46870 9 = .ok (.invokestatic 393, 3) := by decide +kernel
theorem dJ2_getChars_46870_12 : decode cJ2_getChars_46870 12 = .ok (.istore 4, 2) := by decide +kernel
theorem dJ2_getChars_46870_14 : decode cJ2_getChars_46870 14 = .ok (.getstatic 44, 3) := by decide +kernel
theorem dJ2_getChars_46870_17 : decode cJ2_getChars_46870 17 = .ok (.ifCond .ne 17, 3) := by decide +kernel
theorem dJ2_getChars_46870_20 : decode cJ2_getChars_46870 20 = .ok (.iload_n 1, 1) := by decide +kernel
theorem dJ2_getChars_46870_21 : decode cJ2_getChars_46870 21 = .ok (.iload 4, 2) := by decide +kernel
theorem dJ2_getChars_46870_23 : decode cJ2_getChars_46870 23 = .ok (.if_icmp .eq 11, 3) := by decide +kernel
theorem dJ2_getChars_46870_26 : decode cJ2_getChars_46870 26 = .ok (.new 52, 3) := by decide +kernel
theorem dJ2_getChars_46870_29 : decode cJ2_getChars_46870 29 = .ok (.dup, 1) := by decide +kernel
theorem dJ2_getChars_46870_30 : decode cJ2_getChars_46870 30 = .ok (.invokespecial 66, 3) := by decide +kernel
theorem dJ2_getChars_46870_33 : decode cJ2_getChars_46870 33 = .ok (.athrow, 1) := by decide +kernel
theorem dJ2_getChars_46870_34 : decode cJ2_getChars_46870 34 = .ok (.iload 4, 2) := by decide +kernel
theorem dJ2_getChars_46870_36 : decode cJ2_getChars_46870 36 = .ok (.ireturn, 1) := by decide +kernel
theorem dJ2_putCharsAt_cd4e5_0 : decode cJ2_putCharsAt_cd4e5 0 = .ok (.iload_n 1, 1) := by decide +kernel
theorem dJ2_putCharsAt_cd4e5_1 : decode cJ2_putCharsAt_cd4e5 1 = .ok (.iconst 4, 1) := by decide +kernel
theorem dJ2_putCharsAt_cd4e5_2 : decode cJ2_putCharsAt_cd4e5 2 = .ok (.iadd, 1) := by decide +kernel
theorem dJ2_putCharsAt_cd4e5_3 : decode cJ2_putCharsAt_cd4e5 3 = .ok (.istore 6, 2) := by decide +kernel
theorem dJ2_putCharsAt_cd4e5_5 : decode cJ2_putCharsAt_cd4e5 5 = .ok (.iload_n 1, 1) := by decide +kernel
theorem dJ2_putCharsAt_cd4e5_6 : decode cJ2_putCharsAt_cd4e5 6 = .ok (.iload 6, 2) := by decide +kernel
theorem dJ2_putCharsAt_cd4e5_8 : decode cJ2_putCharsAt_cd4e5 8 = .ok (.aload_n 0, 1) := by decide +kernel
theorem dJ2_putCharsAt_cd4e5_9 : decode cJ2_putCharsAt_cd4e5 9 = .ok (.invokestatic 96, 3) := by decide +kernel
theorem dJ2_putCharsAt_cd4e5_12 : decode cJ2_putCharsAt_cd4e5 12 = .ok (.aload_n 0, 1) := by decide +kernel
theorem dJ2_putCharsAt_cd4e5_13 : decode cJ2_putCharsAt_cd4e5 13 = .ok (.iload_n 1, 1) := by decide +kernel
theorem dJ2_putCharsAt_cd4e5_14 : decode cJ2_putCharsAt_cd4e5 14 = .ok (.iinc 1 1, 3) := by decide +kernel
theorem dJ2_putCharsAt_cd4e5_17 : decode cJ2_putCharsAt_cd4e5 17 = .ok (.iload_n 2, 1) := by decide +kernel
theorem dJ2_putCharsAt_cd4e5_18 : decode cJ2_putCharsAt_cd4e5 18 = .ok (.invokestatic 111, 3) := by decide +kernel
theorem dJ2_putCharsAt_cd4e5_21 : decode cJ2_putCharsAt_cd4e5 21 = .ok (.aload_n 0, 1) := by decide +kernel
theorem dJ2_putCharsAt_cd4e5_22 : decode cJ2_putCharsAt_cd4e5 22 = .ok (.iload_n 1, 1) := by decide +kernel
theorem dJ2_putCharsAt_cd4e5_23 : decode cJ2_putCharsAt_cd4e5 23 = .ok (.iinc 1 1, 3) := by decide +kernel
theorem dJ2_putCharsAt_cd4e5_26 : decode cJ2_putCharsAt_cd4e5 26 = .ok (.iload_n 3, 1) := by decide +kernel
theorem dJ2_putCharsAt_cd4e5_27 : decode cJ2_putCharsAt_cd4e5 27 = .ok (.invokestatic 111, 3) := by decide +kernel
theorem dJ2_putCharsAt_cd4e5_30 : decode cJ2_putCharsAt_cd4e5 30 = .ok (.aload_n 0, 1) := by decide +kernel
theorem dJ2_putCharsAt_cd4e5_31 : decode cJ2_putCharsAt_cd4e5 31 = .ok (.iload_n 1, 1) := by decide +kernel
theorem dJ2_putCharsAt_cd4e5_32 : decode cJ2_putCharsAt_cd4e5 32 = .ok (.iinc 1 1, 3) := by decide +kernel
theorem dJ2_putCharsAt_cd4e5_35 : decode cJ2_putCharsAt_cd4e5 35 = .ok (.iload 4, 2) := by decide +kernel
theorem dJ2_putCharsAt_cd4e5_37 : decode cJ2_putCharsAt_cd4e5 37 = .ok (.invokestatic 111, 3) := by decide +kernel
theorem dJ2_putCharsAt_cd4e5_40 : decode cJ2_putCharsAt_cd4e5 40 = .ok (.aload_n 0, 1) := by decide +kernel
theorem dJ2_putCharsAt_cd4e5_41 : decode cJ2_putCharsAt_cd4e5 41 = .ok (.iload_n 1, 1) := by decide +kernel
theorem dJ2_putCharsAt_cd4e5_42 : decode cJ2_putCharsAt_cd4e5 42 = .ok (.iinc 1 1, 3) := by decide +kernel
theorem dJ2_putCharsAt_cd4e5_45 : decode cJ2_putCharsAt_cd4e5 45 = .ok (.iload 5, 2) := by decide +kernel
theorem dJ2_putCharsAt_cd4e5_47 : decode cJ2_putCharsAt_cd4e5 47 = .ok (.invokestatic 111, 3) := by decide +kernel
theorem dJ2_putCharsAt_cd4e5_50 : decode cJ2_putCharsAt_cd4e5 50 = .ok (.getstatic 44, 3) := by decide +kernel
theorem dJ2_putCharsAt_cd4e5_53 : decode cJ2_putCharsAt_cd4e5 53 = .ok (.ifCond .ne 17, 3) := by decide +kernel
theorem dJ2_putCharsAt_cd4e5_56 : decode cJ2_putCharsAt_cd4e5 56 = .ok (.iload_n 1, 1) := by decide +kernel
theorem dJ2_putCharsAt_cd4e5_57 : decode cJ2_putCharsAt_cd4e5 57 = .ok (.iload 6, 2) := by decide +kernel
theorem dJ2_putCharsAt_cd4e5_59 : decode cJ2_putCharsAt_cd4e5 59 = .ok (.if_icmp .eq 11, 3) := by decide +kernel
theorem dJ2_putCharsAt_cd4e5_62 : decode cJ2_putCharsAt_cd4e5 62 = .ok (.new 52, 3) := by decide +kernel
theorem dJ2_putCharsAt_cd4e5_65 : decode cJ2_putCharsAt_cd4e5 65 = .ok (.dup, 1) := by decide +kernel
theorem dJ2_putCharsAt_cd4e5_66 : decode cJ2_putCharsAt_cd4e5 66 = .ok (.invokespecial 66, 3) := by decide +kernel
theorem dJ2_putCharsAt_cd4e5_69 : decode cJ2_putCharsAt_cd4e5 69 = .ok (.athrow, 1) := by decide +kernel
theorem dJ2_putCharsAt_cd4e5_70 : decode cJ2_putCharsAt_cd4e5 70 = .ok (.iload 6, 2) := by decide +kernel
theorem dJ2_putCharsAt_cd4e5_72 : decode cJ2_putCharsAt_cd4e5 72 = .ok (.ireturn, 1) := by decide +kernel
theorem dJ2_charAt_3b067_0 : decode cJ2_charAt_3b067 0 = .ok (.iload_n 1, 1) := by decide +kernel
theorem dJ2_charAt_3b067_1 : decode cJ2_charAt_3b067 1 = .ok (.aload_n 0, 1) := by decide +kernel
theorem dJ2_charAt_3b067_2 : decode cJ2_charAt_3b067 2 = .ok (.invokestatic 67, 3) := by decide +kernel
theorem dJ2_charAt_3b067_5 : decode cJ2_charAt_3b067 5 = .ok (.aload_n 0, 1) := by decide +kernel
theorem dJ2_charAt_3b067_6 : decode cJ2_charAt_3b067 6 = .ok (.iload_n 1, 1) := by decide +kernel
theorem dJ2_charAt_3b067_7 : decode cJ2_charAt_3b067 7 = .ok (.invokestatic 71, 3) := by decide +kernel
theorem dJ2_charAt_3b067_10 : decode cJ2_charAt_3b067 10 = .ok (.ireturn, 1) := by decide +kernel
theorem dJ2_inflate_0e8fd_0 : decode cJ2_inflate_0e8fd 0 = .ok (.iload_n 3, 1) := by decide +kernel
theorem dJ2_inflate_0e8fd_1 : decode cJ2_inflate_0e8fd 1 = .ok (.iload 4, 2) := by decide +kernel
theorem dJ2_inflate_0e8fd_3 : decode cJ2_inflate_0e8fd 3 = .ok (.aload_n 2, 1) := by decide +kernel
theorem dJ2_inflate_0e8fd_4 : decode cJ2_inflate_0e8fd 4 = .ok (.invokestatic 173, 3) := by decide +kernel
theorem dJ2_inflate_0e8fd_7 : decode cJ2_inflate_0e8fd 7 = .ok (.iconst 0, 1) := by decide +kernel
theorem dJ2_inflate_0e8fd_8 : decode cJ2_inflate_0e8fd 8 = .ok (.istore 5, 2) := by decide +kernel
theorem dJ2_inflate_0e8fd_10 : decode cJ2_inflate_0e8fd 10 = .ok (.iload 5, 2) := by decide +kernel
theorem dJ2_inflate_0e8fd_12 : decode cJ2_inflate_0e8fd 12 = .ok (.iload 4, 2) := by decide +kernel
theorem dJ2_inflate_0e8fd_14 : decode cJ2_inflate_0e8fd 14 = .ok (.if_icmp .ge 27, 3) := by decide +kernel
theorem dJ2_inflate_0e8fd_17 : decode cJ2_inflate_0e8fd 17 = .ok (.aload_n 2, 1) := by decide +kernel
theorem dJ2_inflate_0e8fd_18 : decode cJ2_inflate_0e8fd 18 = .ok (.iload_n 3, 1) := by decide +kernel
theorem dJ2_inflate_0e8fd_19 : decode cJ2_inflate_0e8fd 19 = .ok (.iinc 3 1, 3) := by decide +kernel
theorem dJ2_inflate_0e8fd_22 : decode cJ2_inflate_0e8fd 22 = .ok (.aload_n 0, 1) := by decide +kernel
theorem dJ2_inflate_0e8fd_23 : decode cJ2_inflate_0e8fd 23 = .ok (.iload_n 1, 1) := by decide +kernel
theorem dJ2_inflate_0e8fd_24 : decode cJ2_inflate_0e8fd 24 = .ok (.iinc 1 1, 3) := by decide +kernel
theorem dJ2_inflate_0e8fd_27 : decode cJ2_inflate_0e8fd 27 = .ok (.baload, 1) := by decide +kernel
theorem dJ2_inflate_0e8fd_28 : decode cJ2_inflate_0e8fd 28 = .ok (.sipush 255, 3) := by decide +kernel
theorem dJ2_inflate_0e8fd_31 : decode cJ2_inflate_0e8fd 31 = .ok (.iand, 1) := by decide +kernel
theorem dJ2_inflate_0e8fd_32 : decode cJ2_inflate_0e8fd 32 = .ok (.invokestatic 111, 3) := by decide +kernel
theorem dJ2_inflate_0e8fd_35 : decode cJ2_inflate_0e8fd 35 = .ok (.iinc 5 1, 3) := by decide +kernel
theorem dJ2_inflate_0e8fd_38 : decode cJ2_inflate_0e8fd 38 = .ok (.goto (-28), 3) := by decide +kernel
theorem dJ2_inflate_0e8fd_41 : decode cJ2_inflate_0e8fd 41 = .ok (.return_, 1) := by decide +kernel
theorem dJ2_getChars_ba4f3_0 : decode cJ2_getChars_ba4f3 0 = .ok (.iload_n 1, 1) := by decide +kernel
theorem dJ2_getChars_ba4f3_1 : decode cJ2_getChars_ba4f3 1 = .ok (.istore 5, 2) := by decide +kernel
theorem dJ2_getChars_ba4f3_3 : decode cJ2_getChars_ba4f3 3 = .ok (.iload_n 0, 1) := by decide +kernel
theorem dJ2_getChars_ba4f3_4 : decode cJ2_getChars_ba4f3 4 = .ok (.ifCond .ge 7, 3) := by decide +kernel
theorem dJ2_getChars_ba4f3_7 : decode cJ2_getChars_ba4f3 7 = .ok (.iconst 1, 1) := by decide +kernel
theorem dJ2_getChars_ba4f3_8 : decode cJ2_getChars_ba4f3 8 = .ok (.goto 4, 3) := by decide +kernel
theorem dJ2_getChars_ba4f3_11 : decode cJ2_getChars_ba4f3 11 = .ok (.iconst 0, 1) := by decide +kernel
theorem dJ2_getChars_ba4f3_12 : decode cJ2_getChars_ba4f3 12 = .ok (.istore 6, 2) := by decide +kernel
theorem dJ2_getChars_ba4f3_14 : decode cJ2_getChars_ba4f3 14 = .ok (.iload 6, 2) := by decide +kernel
theorem dJ2_getChars_ba4f3_16 : decode cJ2_getChars_ba4f3 16 = .ok (.ifCond .ne 6, 3) := by decide +kernel
theorem dJ2_getChars_ba4f3_19 : decode cJ2_getChars_ba4f3 19 = .ok (.iload_n 0, 1) := by decide +kernel
theorem dJ2_getChars_ba4f3_20 : decode cJ2_getChars_ba4f3 20 = .ok (.ineg, 1) := by decide +kernel
theorem dJ2_getChars_ba4f3_21 : decode cJ2_getChars_ba4f3 21 = .ok (.istore_n 0, 1) := by decide +kernel
theorem dJ2_getChars_ba4f3_22 : decode cJ2_getChars_ba4f3 22 = .ok (.iload_n 0, 1) := by decide +kernel
theorem dJ2_getChars_ba4f3_23 : decode cJ2_getChars_ba4f3 23 = .ok (.bipush (-100), 2) := by decide +kernel
theorem dJ2_getChars_ba4f3_25 : decode cJ2_getChars_ba4f3 25 = .ok (.if_icmp .gt 51, 3) := by decide +kernel
theorem dJ2_getChars_ba4f3_28 : decode cJ2_getChars_ba4f3 28 = .ok (.iload_n 0, 1) := by decide +kernel
theorem dJ2_getChars_ba4f3_29 : decode cJ2_getChars_ba4f3 29 = .ok (.bipush 100, 2) := by decide +kernel
theorem dJ2_getChars_ba4f3_31 : decode cJ2_getChars_ba4f3 31 = .ok (.idiv, 1) := by decide +kernel
theorem dJ2_getChars_ba4f3_32 : decode cJ2_getChars_ba4f3 32 = .ok (.istore_n 3, 1) := by decide +kernel
theorem dJ2_getChars_ba4f3_33 : decode cJ2_getChars_ba4f3 33 = .ok (.iload_n 3, 1) := by decide +kernel
theorem dJ2_getChars_ba4f3_34 : decode cJ2_getChars_ba4f3 34 = .ok (.bipush 100, 2) := by decide +kernel
theorem dJ2_getChars_ba4f3_36 : decode cJ2_getChars_ba4f3 36 = .ok (.imul, 1) := by decide +kernel
theorem dJ2_getChars_ba4f3_37 : decode cJ2_getChars_ba4f3 37 = .ok (.iload_n 0, 1) := by decide +kernel
theorem dJ2_getChars_ba4f3_38 : decode cJ2_getChars_ba4f3 38 = .ok (.isub, 1) := by decide +kernel
theorem dJ2_getChars_ba4f3_39 : decode cJ2_getChars_ba4f3 39 = .ok (.istore 4, 2) := by decide +kernel
theorem dJ2_getChars_ba4f3_41 : decode cJ2_getChars_ba4f3 41 = .ok (.iload_n 3, 1) := by decide +kernel
theorem dJ2_getChars_ba4f3_42 : decode cJ2_getChars_ba4f3 42 = .ok (.istore_n 0, 1) := by decide +kernel
theorem dJ2_getChars_ba4f3_43 : decode cJ2_getChars_ba4f3 43 = .ok (.aload_n 2, 1) := by decide +kernel
theorem dJ2_getChars_ba4f3_44 : decode cJ2_getChars_ba4f3 44 = .ok (.iinc 5 (-1), 3) := by decide +kernel
theorem dJ2_getChars_ba4f3_47 : decode cJ2_getChars_ba4f3 47 = .ok (.iload 5, 2) := by decide +kernel
theorem dJ2_getChars_ba4f3_49 : decode cJ2_getChars_ba4f3 49 = .ok (.getstatic 403, 3) := by decide +kernel
theorem dJ2_getChars_ba4f3_52 : decode cJ2_getChars_ba4f3 52 = .ok (.iload 4, 2) := by decide +kernel
theorem dJ2_getChars_ba4f3_54 : decode cJ2_getChars_ba4f3 54 = .ok (.baload, 1) := by decide +kernel
theorem dJ2_getChars_ba4f3_55 : decode cJ2_getChars_ba4f3 55 = .ok (.invokestatic 111, 3) := by decide +kernel
theorem dJ2_getChars_ba4f3_58 : decode cJ2_getChars_ba4f3 58 = .ok (.aload_n 2, 1) := by decide +kernel
theorem dJ2_getChars_ba4f3_59 : decode cJ2_getChars_ba4f3 59 = .ok (.iinc 5 (-1), 3) := by decide +kernel
theorem dJ2_getChars_ba4f3_62 : decode cJ2_getChars_ba4f3 62 = .ok (.iload 5, 2) := by decide +kernel
theorem dJ2_getChars_ba4f3_64 : decode cJ2_getChars_ba4f3 64 = .ok (.getstatic 407, 3) := by decide +kernel
theorem dJ2_getChars_ba4f3_67 : decode cJ2_getChars_ba4f3 67 = .ok (.iload 4, 2) := by decide +kernel
theorem dJ2_getChars_ba4f3_69 : decode cJ2_getChars_ba4f3 69 = .ok (.baload, 1) := by decide +kernel
theorem dJ2_getChars_ba4f3_70 : decode cJ2_getChars_ba4f3 70 = .ok (.invokestatic 111, 3) := by decide +kernel
theorem dJ2_getChars_ba4f3_73 : decode cJ2_getChars_ba4f3 73 = .ok (.goto (-51), 3) := by decide +kernel
theorem dJ2_getChars_ba4f3_76 : decode cJ2_getChars_ba4f3 76 = .ok (.aload_n 2, 1) := by decide +kernel
theorem dJ2_getChars_ba4f3_77 : decode cJ2_getChars_ba4f3 77 = .ok (.iinc 5 (-1), 3) := by decide +kernel
theorem dJ2_getChars_ba4f3_80 : decode cJ2_getChars_ba4f3 80 = .ok (.iload 5, 2) := by decide +kernel
theorem dJ2_getChars_ba4f3_82 : decode cJ2_getChars_ba4f3 82 = .ok (.getstatic 403, 3) := by decide +kernel
theorem dJ2_getChars_ba4f3_85 : decode cJ2_getChars_ba4f3 85 = .ok (.iload_n 0, 1) := by decide +kernel
theorem dJ2_getChars_ba4f3_86 : decode cJ2_getChars_ba4f3 86 = .ok (.ineg, 1) := by decide +kernel
theorem dJ2_getChars_ba4f3_87 : decode cJ2_getChars_ba4f3 87 = .ok (.baload, 1) := by decide +kernel
theorem dJ2_getChars_ba4f3_88 : decode cJ2_getChars_ba4f3 88 = .ok (.invokestatic 111, 3) := by decide +kernel
theorem dJ2_getChars_ba4f3_91 : decode cJ2_getChars_ba4f3 91 = .ok (.iload_n 0, 1) := by decide +kernel
theorem dJ2_getChars_ba4f3_92 : decode cJ2_getChars_ba4f3 92 = .ok (.bipush (-9), 2) := by decide +kernel
theorem dJ2_getChars_ba4f3_94 : decode cJ2_getChars_ba4f3 94 = .ok (.if_icmp .ge 18, 3) := by decide +kernel
theorem dJ2_getChars_ba4f3_97 : decode cJ2_getChars_ba4f3 97 = .ok (.aload_n 2, 1) := by decide +kernel
theorem dJ2_getChars_ba4f3_98 : decode cJ2_getChars_ba4f3 98 = .ok (.iinc 5 (-1), 3) := by decide +kernel
theorem dJ2_getChars_ba4f3_101 : decode cJ2_getChars_ba4f3 101 = .ok (.iload 5, 2) := by decide +kernel
theorem dJ2_getChars_ba4f3_103 : decode cJ2_getChars_ba4f3 103 = .ok (.getstatic 407, 3) := by decide +kernel
theorem dJ2_getChars_ba4f3_106 : decode cJ2_getChars_ba4f3 106 = .ok (.iload_n 0, 1) := by decide +kernel
theorem dJ2_getChars_ba4f3_107 : decode cJ2_getChars_ba4f3 107 = .ok (.ineg, 1) := by decide +kernel
theorem dJ2_getChars_ba4f3_108 : decode cJ2_getChars_ba4f3 108 = .ok (.baload, 1) := by decide +kernel
theorem dJ2_getChars_ba4f3_109 : decode cJ2_getChars_ba4f3 109 = .ok (.invokestatic 111, 3) := by decide +kernel
theorem dJ2_getChars_ba4f3_112 : decode cJ2_getChars_ba4f3 112 = .ok (.iload 6, 2) := by decide +kernel
theorem dJ2_getChars_ba4f3_114 : decode cJ2_getChars_ba4f3 114 = .ok (.ifCond .eq 14, 3) := by decide +kernel
theorem dJ2_getChars_ba4f3_117 : decode cJ2_getChars_ba4f3 117 = .ok (.aload_n 2, 1) := by decide +kernel
theorem dJ2_getChars_ba4f3_118 : decode cJ2_getChars_ba4f3 118 = .ok (.iinc 5 (-1), 3) := by decide +kernel
theorem dJ2_getChars_ba4f3_121 : decode cJ2_getChars_ba4f3 121 = .ok (.iload 5, 2) := by decide +kernel
theorem dJ2_getChars_ba4f3_123 : decode cJ2_getChars_ba4f3 123 = .ok (.bipush 45, 2) := by decide +kernel
theorem dJ2_getChars_ba4f3_125 : decode cJ2_getChars_ba4f3 125 = .ok (.invokestatic 111, 3) := by decide +kernel
theorem dJ2_getChars_ba4f3_128 : decode cJ2_getChars_ba4f3 128 = .ok (.iload 5, 2) := by decide +kernel
theorem dJ2_getChars_ba4f3_130 : decode cJ2_getChars_ba4f3 130 = .ok (.ireturn, 1) := by decide +kernel
theorem dJ2_checkIndex_2214a_0 : decode cJ2_checkIndex_2214a 0 = .ok (.iload_n 0, 1) := by decide +kernel
theorem dJ2_checkIndex_2214a_1 : decode cJ2_checkIndex_2214a 1 = .ok (.aload_n 1, 1) := by decide +kernel
theorem dJ2_checkIndex_2214a_2 : decode cJ2_checkIndex_2214a 2 = .ok (.invokestatic 48, 3) := by decide +kernel
theorem dJ2_checkIndex_2214a_5 : decode cJ2_checkIndex_2214a 5 = .ok (.invokestatic 414, 3) := by decide +kernel
theorem dJ2_checkIndex_2214a_8 : decode cJ2_checkIndex_2214a 8 = .ok (.return_, 1) := by decide +kernel
theorem dJ2_checkBoundsBeginEnd_d044e_0 : decode cJ2_checkBoundsBeginEnd_d044e 0 = .ok (.iload_n 0, 1) := by decide +kernel
theorem dJ2_checkBoundsBeginEnd_d044e_1 : decode cJ2_checkBoundsBeginEnd_d044e 1 = .ok (.iload_n 1, 1) := by decide +kernel
theorem dJ2_checkBoundsBeginEnd_d044e_2 : decode cJ2_checkBoundsBeginEnd_d044e 2 = .ok (.aload_n 2, 1) := by decide +kernel
theorem dJ2_checkBoundsBeginEnd_d044e_3 : decode cJ2_checkBoundsBeginEnd_d044e 3 = .ok (.invokestatic 48, 3) := by decide +kernel
theorem dJ2_checkBoundsBeginEnd_d044e_6 : decode cJ2_checkBoundsBeginEnd_d044e 6 = .ok (.invokestatic 241, 3) := by decide +kernel
theorem dJ2_checkBoundsBeginEnd_d044e_9 : decode cJ2_checkBoundsBeginEnd_d044e 9 = .ok (.return_, 1) := by decide +kernel
theorem dJ2_checkBoundsOffCount_d044e_0 : decode cJ2_checkBoundsOffCount_d044e 0 = .ok (.iload_n 0, 1) := by decide +kernel
theorem dJ2_checkBoundsOffCount_d044e_1 : decode cJ2_checkBoundsOffCount_d044e 1 = .ok (.iload_n 1, 1) := by decide +kernel
theorem dJ2_checkBoundsOffCount_d044e_2 : decode cJ2_checkBoundsOffCount_d044e 2 = .ok (.aload_n 2, 1) := by decide +kernel
theorem dJ2_checkBoundsOffCount_d044e_3 : decode cJ2_checkBoundsOffCount_d044e 3 = .ok (.invokestatic 48, 3) := by decide +kernel
theorem dJ2_checkBoundsOffCount_d044e_6 : decode cJ2_checkBoundsOffCount_d044e 6 = .ok (.invokestatic 419, 3) := by decide +kernel
theorem dJ2_checkBoundsOffCount_d044e_9 : decode cJ2_checkBoundsOffCount_d044e 9 = .ok (.pop, 1) := by decide +kernel
theorem dJ2_checkBoundsOffCount_d044e_10 : decode cJ2_checkBoundsOffCount_d044e 10 = .ok (.return_, 1) := by decide +kernel
theorem dJ7_copyOf_9075b_0 : decode cJ7_copyOf_9075b 0 = .ok (.iload_n 1, 1) := by decide +kernel
theorem dJ7_copyOf_9075b_1 : decode cJ7_copyOf_9075b 1 = .ok (.aload_n 0, 1) := by decide +kernel
theorem dJ7_copyOf_9075b_2 : decode cJ7_copyOf_9075b 2 = .ok (.arraylength, 1) := by decide +kernel
theorem dJ7_copyOf_9075b_3 : decode cJ7_copyOf_9075b 3 = .ok (.if_icmp .ne 11, 3) := by decide +kernel
theorem dJ7_copyOf_9075b_6 : decode cJ7_copyOf_9075b 6 = .ok (.aload_n 0, 1) := by decide +kernel
theorem dJ7_copyOf_9075b_7 : decode cJ7_copyOf_9075b 7 = .ok (.invokevirtual 310, 3) := by decide +kernel
theorem dJ7_copyOf_9075b_10 : decode cJ7_copyOf_9075b 10 = .ok (.checkcast 311, 3) := by decide +kernel
theorem dJ7_copyOf_9075b_13 : decode cJ7_copyOf_9075b 13 = .ok (.areturn, 1) := by decide +kernel
theorem dJ7_copyOf_9075b_14 : decode cJ7_copyOf_9075b 14 = .ok (.iload_n 1, 1) := by decide +kernel
theorem dJ7_copyOf_9075b_15 : decode cJ7_copyOf_9075b 15 = .ok (.newarray .byte, 2) := by decide +kernel
theorem dJ7_copyOf_9075b_17 : decode cJ7_copyOf_9075b 17 = .ok (.astore_n 2, 1) := by decide +kernel
theorem dJ7_copyOf_9075b_18 : decode cJ7_copyOf_9075b 18 = .ok (.aload_n 0, 1) := by decide +kernel
theorem dJ7_copyOf_9075b_19 : decode cJ7_copyOf_9075b 19 = .ok (.iconst 0, 1) := by decide +kernel
theorem dJ7_copyOf_9075b_20 : decode cJ7_copyOf_9075b 20 = .ok (.aload_n 2, 1) := by decide +kernel
theorem dJ7_copyOf_9075b_21 : decode cJ7_copyOf_9075b 21 = .ok (.iconst 0, 1) := by decide +kernel
theorem dJ7_copyOf_9075b_22 : decode cJ7_copyOf_9075b 22 = .ok (.aload_n 0, 1) := by decide +kernel
theorem dJ7_copyOf_9075b_23 : decode cJ7_copyOf_9075b 23 = .ok (.arraylength, 1) := by decide +kernel
theorem dJ7_copyOf_9075b_24 : decode cJ7_copyOf_9075b 24 = .ok (.iload_n 1, 1) := by decide +kernel
theorem dJ7_copyOf_9075b_25 : decode cJ7_copyOf_9075b 25 = .ok (.invokestatic 304, 3) := by decide +kernel
theorem dJ7_copyOf_9075b_28 : decode cJ7_copyOf_9075b 28 = .ok (.invokestatic 150, 3) := by decide +kernel
theorem dJ7_copyOf_9075b_31 : decode cJ7_copyOf_9075b 31 = .ok (.aload_n 2, 1) := by decide +kernel
theorem dJ7_copyOf_9075b_32 : decode cJ7_copyOf_9075b 32 = .ok (.areturn, 1) := by decide +kernel
theorem dJ7_checkLength_df160_0 : decode cJ7_checkLength_df160 0 = .ok (.iload_n 1, 1) := by decide +kernel
theorem dJ7_checkLength_df160_1 : decode cJ7_checkLength_df160 1 = .ok (.iload_n 0, 1) := by decide +kernel
theorem dJ7_checkLength_df160_2 : decode cJ7_checkLength_df160 2 = .ok (.if_icmp .ge 35, 3) := by decide +kernel
theorem dJ7_checkLength_df160_5 : decode cJ7_checkLength_df160 5 = .ok (.new 43, 3) := by decide +kernel
theorem dJ7_checkLength_df160_8 : decode cJ7_checkLength_df160 8 = .ok (.dup, 1) := by decide +kernel
theorem dJ7_checkLength_df160_9 : decode cJ7_checkLength_df160 9 = .ok (.new 45, 3) := by decide +kernel
theorem dJ7_checkLength_df160_12 : decode cJ7_checkLength_df160 12 = .ok (.dup, 1) := by decide +kernel
theorem dJ7_checkLength_df160_13 : decode cJ7_checkLength_df160 13 = .ok (.invokespecial 47, 3) := by decide +kernel
theorem dJ7_checkLength_df160_16 : decode cJ7_checkLength_df160 16 = .ok (.iload_n 0, 1) := by decide +kernel
theorem dJ7_checkLength_df160_17 : decode cJ7_checkLength_df160 17 = .ok (.invokevirtual 54, 3) := by decide +kernel
theorem dJ7_checkLength_df160_20 : decode cJ7_checkLength_df160 20 = .ok (.ldc_w 337, 3) := by decide +kernel
theorem dJ7_checkLength_df160_23 : decode cJ7_checkLength_df160 23 = .ok (.invokevirtual 50, 3) := by decide +kernel
theorem dJ7_checkLength_df160_26 : decode cJ7_checkLength_df160 26 = .ok (.iload_n 1, 1) := by decide +kernel
theorem dJ7_checkLength_df160_27 : decode cJ7_checkLength_df160 27 = .ok (.invokevirtual 54, 3) := by decide +kernel
theorem dJ7_checkLength_df160_30 : decode cJ7_checkLength_df160 30 = .ok (.invokevirtual 61, 3) := by decide +kernel
theorem dJ7_checkLength_df160_33 : decode cJ7_checkLength_df160 33 = .ok (.invokespecial 65, 3) := by decide +kernel
theorem dJ7_checkLength_df160_36 : decode cJ7_checkLength_df160 36 = .ok (.athrow, 1) := by decide +kernel
theorem dJ7_checkLength_df160_37 : decode cJ7_checkLength_df160 37 = .ok (.return_, 1) := by decide +kernel
theorem dJ7_copyOfRange_39247_0 : decode cJ7_copyOfRange_39247 0 = .ok (.iload_n 1, 1) := by decide +kernel
theorem dJ7_copyOfRange_39247_1 : decode cJ7_copyOfRange_39247 1 = .ok (.ifCond .ne 9, 3) := by decide +kernel
theorem dJ7_copyOfRange_39247_4 : decode cJ7_copyOfRange_39247 4 = .ok (.iload_n 2, 1) := by decide +kernel
theorem dJ7_copyOfRange_39247_5 : decode cJ7_copyOfRange_39247 5 = .ok (.aload_n 0, 1) := by decide +kernel
theorem dJ7_copyOfRange_39247_6 : decode cJ7_copyOfRange_39247 6 = .ok (.arraylength, 1) := by decide +kernel
theorem dJ7_copyOfRange_39247_7 : decode cJ7_copyOfRange_39247 7 = .ok (.if_icmp .eq 10, 3) := by decide +kernel
theorem dJ7_copyOfRange_39247_10 : decode cJ7_copyOfRange_39247 10 = .ok (.aload_n 0, 1) := by decide +kernel
theorem dJ7_copyOfRange_39247_11 : decode cJ7_copyOfRange_39247 11 = .ok (.iload_n 1, 1) := by decide +kernel
theorem dJ7_copyOfRange_39247_12 : decode cJ7_copyOfRange_39247 12 = .ok (.iload_n 2, 1) := by decide +kernel
theorem dJ7_copyOfRange_39247_13 : decode cJ7_copyOfRange_39247 13 = .ok (.invokestatic 339, 3) := by decide +kernel
theorem dJ7_copyOfRange_39247_16 : decode cJ7_copyOfRange_39247 16 = .ok (.areturn, 1) := by decide +kernel
theorem dJ7_copyOfRange_39247_17 : decode cJ7_copyOfRange_39247 17 = .ok (.aload_n 0, 1) := by decide +kernel
theorem dJ7_copyOfRange_39247_18 : decode cJ7_copyOfRange_39247 18 = .ok (.invokevirtual 310, 3) := by decide +kernel
theorem dJ7_copyOfRange_39247_21 : decode cJ7_copyOfRange_39247 21 = .ok (.checkcast 311, 3) := by decide +kernel
theorem dJ7_copyOfRange_39247_24 : decode cJ7_copyOfRange_39247 24 = .ok (.areturn, 1) := by decide +kernel
theorem dJ7_copyOfRangeByte_39247_0 : decode cJ7_copyOfRangeByte_39247 0 = .ok (.iload_n 1, 1) := by decide +kernel
theorem dJ7_copyOfRangeByte_39247_1 : decode cJ7_copyOfRangeByte_39247 1 = .ok (.iload_n 2, 1) := by decide +kernel
theorem dJ7_copyOfRangeByte_39247_2 : decode cJ7_copyOfRangeByte_39247 2 = .ok (.invokestatic 343, 3) := by decide +kernel
theorem dJ7_copyOfRangeByte_39247_5 : decode cJ7_copyOfRangeByte_39247 5 = .ok (.iload_n 2, 1) := by decide +kernel
theorem dJ7_copyOfRangeByte_39247_6 : decode cJ7_copyOfRangeByte_39247 6 = .ok (.iload_n 1, 1) := by decide +kernel
theorem dJ7_copyOfRangeByte_39247_7 : decode cJ7_copyOfRangeByte_39247 7 = .ok (.isub, 1) := by decide +kernel
theorem dJ7_copyOfRangeByte_39247_8 : decode cJ7_copyOfRangeByte_39247 8 = .ok (.istore_n 3, 1) := by decide +kernel
theorem dJ7_copyOfRangeByte_39247_9 : decode cJ7_copyOfRangeByte_39247 9 = .ok (.iload_n 3, 1) := by decide +kernel
theorem dJ7_copyOfRangeByte_39247_10 : decode cJ7_copyOfRangeByte_39247 10 = .ok (.newarray .byte, 2) := by decide +kernel
theorem dJ7_copyOfRangeByte_39247_12 : decode cJ7_copyOfRangeByte_39247 12 = .ok (.astore 4, 2) := by decide +kernel
theorem dJ7_copyOfRangeByte_39247_14 : decode cJ7_copyOfRangeByte_39247 14 = .ok (.aload_n 0, 1) := by decide +kernel
theorem dJ7_copyOfRangeByte_39247_15 : decode cJ7_copyOfRangeByte_39247 15 = .ok (.iload_n 1, 1) := by decide +kernel
theorem dJ7_copyOfRangeByte_39247_16 : decode cJ7_copyOfRangeByte_39247 16 = .ok (.aload 4, 2) := by decide +kernel
theorem dJ7_copyOfRangeByte_39247_18 : decode cJ7_copyOfRangeByte_39247 18 = .ok (.iconst 0, 1) := by decide +kernel
theorem dJ7_copyOfRangeByte_39247_19 : decode cJ7_copyOfRangeByte_39247 19 = .ok (.aload_n 0, 1) := by decide +kernel
theorem dJ7_copyOfRangeByte_39247_20 : decode cJ7_copyOfRangeByte_39247 20 = .ok (.arraylength, 1) := by decide +kernel
theorem dJ7_copyOfRangeByte_39247_21 : decode cJ7_copyOfRangeByte_39247 21 = .ok (.iload_n 1, 1) := by decide +kernel
theorem dJ7_copyOfRangeByte_39247_22 : decode cJ7_copyOfRangeByte_39247 22 = .ok (.isub, 1) := by decide +kernel
theorem dJ7_copyOfRangeByte_39247_23 : decode cJ7_copyOfRangeByte_39247 23 = .ok (.iload_n 3, 1) := by decide +kernel
theorem dJ7_copyOfRangeByte_39247_24 : decode cJ7_copyOfRangeByte_39247 24 = .ok (.invokestatic 304, 3) := by decide +kernel
theorem dJ7_copyOfRangeByte_39247_27 : decode cJ7_copyOfRangeByte_39247 27 = .ok (.invokestatic 150, 3) := by decide +kernel
theorem dJ7_copyOfRangeByte_39247_30 : decode cJ7_copyOfRangeByte_39247 30 = .ok (.aload 4, 2) := by decide +kernel
theorem dJ7_copyOfRangeByte_39247_32 : decode cJ7_copyOfRangeByte_39247 32 = .ok (.areturn, 1) := by decide +kernel
theorem dJ8_newLength_cabcc_0 : decode cJ8_newLength_cabcc 0 = .ok (.iload_n 0, 1) := by decide +kernel
theorem dJ8_newLength_cabcc_1 : decode cJ8_newLength_cabcc 1 = .ok (.iload_n 1, 1) := by decide +kernel
theorem dJ8_newLength_cabcc_2 : decode cJ8_newLength_cabcc 2 = .ok (.iload_n 2, 1) := by decide +kernel
theorem dJ8_newLength_cabcc_3 : decode cJ8_newLength_cabcc 3 = .ok (.invokestatic 194, 3) := by decide +kernel
theorem dJ8_newLength_cabcc_6 : decode cJ8_newLength_cabcc 6 = .ok (.iadd, 1) := by decide +kernel
theorem dJ8_newLength_cabcc_7 : decode cJ8_newLength_cabcc 7 = .ok (.istore_n 3, 1) := by decide +kernel
theorem dJ8_newLength_cabcc_8 : decode cJ8_newLength_cabcc 8 = .ok (.iconst 0, 1) := by decide +kernel
theorem dJ8_newLength_cabcc_9 : decode cJ8_newLength_cabcc 9 = .ok (.iload_n 3, 1) := by decide +kernel
theorem dJ8_newLength_cabcc_10 : decode cJ8_newLength_cabcc 10 = .ok (.if_icmp .ge 11, 3) := by decide +kernel
theorem dJ8_newLength_cabcc_13 : decode cJ8_newLength_cabcc 13 = .ok (.iload_n 3, 1) := by decide +kernel
theorem dJ8_newLength_cabcc_14 : decode cJ8_newLength_cabcc 14 = .ok (.ldc 200, 2) := by decide +kernel
theorem dJ8_newLength_cabcc_16 : decode cJ8_newLength_cabcc 16 = .ok (.if_icmp .gt 5, 3) := by decide +kernel
theorem dJ8_newLength_cabcc_19 : decode cJ8_newLength_cabcc 19 = .ok (.iload_n 3, 1) := by decide +kernel
theorem dJ8_newLength_cabcc_20 : decode cJ8_newLength_cabcc 20 = .ok (.ireturn, 1) := by decide +kernel
theorem dJ8_newLength_cabcc_21 : decode cJ8_newLength_cabcc 21 = .ok (.iload_n 0, 1) := by decide +kernel
theorem dJ8_newLength_cabcc_22 : decode cJ8_newLength_cabcc 22 = .ok (.iload_n 1, 1) := by decide +kernel
theorem dJ8_newLength_cabcc_23 : decode cJ8_newLength_cabcc 23 = .ok (.invokestatic 201, 3) := by decide +kernel
theorem dJ8_newLength_cabcc_26 : decode cJ8_newLength_cabcc 26 = .ok (.ireturn, 1) := by decide +kernel
theorem dJ8_hugeLength_7cf53_0 : decode cJ8_hugeLength_7cf53 0 = .ok (.iload_n 0, 1) := by decide +kernel
theorem dJ8_hugeLength_7cf53_1 : decode cJ8_hugeLength_7cf53 1 = .ok (.iload_n 1, 1) := by decide +kernel
theorem dJ8_hugeLength_7cf53_2 : decode cJ8_hugeLength_7cf53 2 = .ok (.iadd, 1) := by decide +kernel
theorem dJ8_hugeLength_7cf53_3 : decode cJ8_hugeLength_7cf53 3 = .ok (.istore_n 2, 1) := by decide +kernel
theorem dJ8_hugeLength_7cf53_4 : decode cJ8_hugeLength_7cf53 4 = .ok (.iload_n 2, 1) := by decide +kernel
theorem dJ8_hugeLength_7cf53_5 : decode cJ8_hugeLength_7cf53 5 = .ok (.ifCond .ge 44, 3) := by decide +kernel
theorem dJ8_hugeLength_7cf53_8 : decode cJ8_hugeLength_7cf53 8 = .ok (.new 204, 3) := by decide +kernel
theorem dJ8_hugeLength_7cf53_11 : decode cJ8_hugeLength_7cf53 11 = .ok (.dup, 1) := by decide +kernel
theorem dJ8_hugeLength_7cf53_12 : decode cJ8_hugeLength_7cf53 12 = .ok (.new 89, 3) := by decide +kernel
theorem dJ8_hugeLength_7cf53_15 : decode cJ8_hugeLength_7cf53 15 = .ok (.dup, 1) := by decide +kernel
theorem dJ8_hugeLength_7cf53_16 : decode cJ8_hugeLength_7cf53 16 = .ok (.invokespecial 91, 3) := by decide +kernel
theorem dJ8_hugeLength_7cf53_19 : decode cJ8_hugeLength_7cf53 19 = .ok (.ldc 206, 2) := by decide +kernel
theorem dJ8_hugeLength_7cf53_21 : decode cJ8_hugeLength_7cf53 21 = .ok (.invokevirtual 94, 3) := by decide +kernel
theorem dJ8_hugeLength_7cf53_24 : decode cJ8_hugeLength_7cf53 24 = .ok (.iload_n 0, 1) := by decide +kernel
theorem dJ8_hugeLength_7cf53_25 : decode cJ8_hugeLength_7cf53 25 = .ok (.invokevirtual 98, 3) := by decide +kernel
theorem dJ8_hugeLength_7cf53_28 : decode cJ8_hugeLength_7cf53 28 = .ok (.ldc 208, 2) := by decide +kernel
theorem dJ8_hugeLength_7cf53_30 : decode cJ8_hugeLength_7cf53 30 = .ok (.invokevirtual 94, 3) := by decide +kernel
theorem dJ8_hugeLength_7cf53_33 : decode cJ8_hugeLength_7cf53 33 = .ok (.iload_n 1, 1) := by decide +kernel
theorem dJ8_hugeLength_7cf53_34 : decode cJ8_hugeLength_7cf53 34 = .ok (.invokevirtual 98, 3) := by decide +kernel
theorem dJ8_hugeLength_7cf53_37 : decode cJ8_hugeLength_7cf53 37 = .ok (.ldc 210, 2) := by decide +kernel
theorem dJ8_hugeLength_7cf53_39 : decode cJ8_hugeLength_7cf53 39 = .ok (.invokevirtual 94, 3) := by decide +kernel
theorem dJ8_hugeLength_7cf53_42 : decode cJ8_hugeLength_7cf53 42 = .ok (.invokevirtual 101, 3) := by decide +kernel
theorem dJ8_hugeLength_7cf53_45 : decode cJ8_hugeLength_7cf53 45 = .ok (.invokespecial 212, 3) := by decide +kernel
theorem dJ8_hugeLength_7cf53_48 : decode cJ8_hugeLength_7cf53 48 = .ok (.athrow, 1) := by decide +kernel
theorem dJ8_hugeLength_7cf53_49 : decode cJ8_hugeLength_7cf53 49 = .ok (.iload_n 2, 1) := by decide +kernel
theorem dJ8_hugeLength_7cf53_50 : decode cJ8_hugeLength_7cf53 50 = .ok (.ldc 200, 2) := by decide +kernel
theorem dJ8_hugeLength_7cf53_52 : decode cJ8_hugeLength_7cf53 52 = .ok (.if_icmp .gt 6, 3) := by decide +kernel
theorem dJ8_hugeLength_7cf53_55 : decode cJ8_hugeLength_7cf53 55 = .ok (.ldc 200, 2) := by decide +kernel
theorem dJ8_hugeLength_7cf53_57 : decode cJ8_hugeLength_7cf53 57 = .ok (.ireturn, 1) := by decide +kernel
theorem dJ8_hugeLength_7cf53_58 : decode cJ8_hugeLength_7cf53 58 = .ok (.iload_n 2, 1) := by decide +kernel
theorem dJ8_hugeLength_7cf53_59 : decode cJ8_hugeLength_7cf53 59 = .ok (.ireturn, 1) := by decide +kernel
theorem dJ3_checkIndex_8e157_0 : decode cJ3_checkIndex_8e157 0 = .ok (.iload_n 0, 1) := by decide +kernel
theorem dJ3_checkIndex_8e157_1 : decode cJ3_checkIndex_8e157 1 = .ok (.ifCond .lt 8, 3) := by decide +kernel
theorem dJ3_checkIndex_8e157_4 : decode cJ3_checkIndex_8e157 4 = .ok (.iload_n 0, 1) := by decide +kernel
theorem dJ3_checkIndex_8e157_5 : decode cJ3_checkIndex_8e157 5 = .ok (.iload_n 1, 1) := by decide +kernel
theorem dJ3_checkIndex_8e157_6 : decode cJ3_checkIndex_8e157 6 = .ok (.if_icmp .lt 10, 3) := by decide +kernel
theorem dJ3_checkIndex_8e157_9 : decode cJ3_checkIndex_8e157 9 = .ok (.aload_n 2, 1) := by decide +kernel
theorem dJ3_checkIndex_8e157_10 : decode cJ3_checkIndex_8e157 10 = .ok (.iload_n 0, 1) := by decide +kernel
theorem dJ3_checkIndex_8e157_11 : decode cJ3_checkIndex_8e157 11 = .ok (.iload_n 1, 1) := by decide +kernel
theorem dJ3_checkIndex_8e157_12 : decode cJ3_checkIndex_8e157 12 = .ok (.invokestatic 95, 3) := by decide +kernel
theorem dJ3_checkIndex_8e157_15 : decode cJ3_checkIndex_8e157 15 = .ok (.athrow, 1) := by decide +kernel
theorem dJ3_checkIndex_8e157_16 : decode cJ3_checkIndex_8e157 16 = .ok (.iload_n 0, 1) := by decide +kernel
theorem dJ3_checkIndex_8e157_17 : decode cJ3_checkIndex_8e157 17 = .ok (.ireturn, 1) := by decide +kernel
theorem dJ3_checkFromToIndex_8c36e_0 : decode cJ3_checkFromToIndex_8c36e 0 = .ok (.iload_n 0, 1) := by decide +kernel
theorem dJ3_checkFromToIndex_8c36e_1 : decode cJ3_checkFromToIndex_8c36e 1 = .ok (.ifCond .lt 13, 3) := by decide +kernel
theorem dJ3_checkFromToIndex_8c36e_4 : decode cJ3_checkFromToIndex_8c36e 4 = .ok (.iload_n 0, 1) := by decide +kernel
theorem dJ3_checkFromToIndex_8c36e_5 : decode cJ3_checkFromToIndex_8c36e 5 = .ok (.iload_n 1, 1) := by decide +kernel
theorem dJ3_checkFromToIndex_8c36e_6 : decode cJ3_checkFromToIndex_8c36e 6 = .ok (.if_icmp .gt 8, 3) := by decide +kernel
theorem dJ3_checkFromToIndex_8c36e_9 : decode cJ3_checkFromToIndex_8c36e 9 = .ok (.iload_n 1, 1) := by decide +kernel
theorem dJ3_checkFromToIndex_8c36e_10 : decode cJ3_checkFromToIndex_8c36e 10 = .ok (.iload_n 2, 1) := by decide +kernel
theorem dJ3_checkFromToIndex_8c36e_11 : decode cJ3_checkFromToIndex_8c36e 11 = .ok (.if_icmp .le 11, 3) := by decide +kernel
theorem dJ3_checkFromToIndex_8c36e_14 : decode cJ3_checkFromToIndex_8c36e 14 = .ok (.aload_n 3, 1) := by decide +kernel
theorem dJ3_checkFromToIndex_8c36e_15 : decode cJ3_checkFromToIndex_8c36e 15 = .ok (.iload_n 0, 1) := by decide +kernel
theorem dJ3_checkFromToIndex_8c36e_16 : decode cJ3_checkFromToIndex_8c36e 16 = .ok (.iload_n 1, 1) := by decide +kernel
theorem dJ3_checkFromToIndex_8c36e_17 : decode cJ3_checkFromToIndex_8c36e 17 = .ok (.iload_n 2, 1) := by decide +kernel
theorem dJ3_checkFromToIndex_8c36e_18 : decode cJ3_checkFromToIndex_8c36e 18 = .ok (.invokestatic 99, 3) := by decide +kernel
theorem dJ3_checkFromToIndex_8c36e_21 : decode cJ3_checkFromToIndex_8c36e 21 = .ok (.athrow, 1) := by decide +kernel
theorem dJ3_checkFromToIndex_8c36e_22 : decode cJ3_checkFromToIndex_8c36e 22 = .ok (.iload_n 0, 1) := by decide +kernel
theorem dJ3_checkFromToIndex_8c36e_23 : decode cJ3_checkFromToIndex_8c36e 23 = .ok (.ireturn, 1) := by decide +kernel
theorem dJ3_checkFromIndexSize_8c36e_0 : decode cJ3_checkFromIndexSize_8c36e 0 = .ok (.iload_n 2, 1) := by decide +kernel
theorem dJ3_checkFromIndexSize_8c36e_1 : decode cJ3_checkFromIndexSize_8c36e 1 = .ok (.iload_n 0, 1) := by decide +kernel
theorem dJ3_checkFromIndexSize_8c36e_2 : decode cJ3_checkFromIndexSize_8c36e 2 = .ok (.ior, 1) := by decide +kernel
theorem dJ3_checkFromIndexSize_8c36e_3 : decode cJ3_checkFromIndexSize_8c36e 3 = .ok (.iload_n 1, 1) := by decide +kernel
theorem dJ3_checkFromIndexSize_8c36e_4 : decode cJ3_checkFromIndexSize_8c36e 4 = .ok (.ior, 1) := by decide +kernel
theorem dJ3_checkFromIndexSize_8c36e_5 : decode cJ3_checkFromIndexSize_8c36e 5 = .ok (.ifCond .lt 10, 3) := by decide +kernel
theorem dJ3_checkFromIndexSize_8c36e_8 : decode cJ3_checkFromIndexSize_8c36e 8 = .ok (.iload_n 1, 1) := by decide +kernel
theorem dJ3_checkFromIndexSize_8c36e_9 : decode cJ3_checkFromIndexSize_8c36e 9 = .ok (.iload_n 2, 1) := by decide +kernel
theorem dJ3_checkFromIndexSize_8c36e_10 : decode cJ3_checkFromIndexSize_8c36e 10 = .ok (.iload_n 0, 1) := by decide +kernel
theorem dJ3_checkFromIndexSize_8c36e_11 : decode cJ3_checkFromIndexSize_8c36e 11 = .ok (.isub, 1) := by decide +kernel
theorem dJ3_checkFromIndexSize_8c36e_12 : decode cJ3_checkFromIndexSize_8c36e 12 = .ok (.if_icmp .le 11, 3) := by decide +kernel
theorem dJ3_checkFromIndexSize_8c36e_15 : decode cJ3_checkFromIndexSize_8c36e 15 = .ok (.aload_n 3, 1) := by decide +kernel
theorem dJ3_checkFromIndexSize_8c36e_16 : decode cJ3_checkFromIndexSize_8c36e 16 = .ok (.iload_n 0, 1) := by decide +kernel
theorem dJ3_checkFromIndexSize_8c36e_17 : decode cJ3_checkFromIndexSize_8c36e 17 = .ok (.iload_n 1, 1) := by decide +kernel
theorem dJ3_checkFromIndexSize_8c36e_18 : decode cJ3_checkFromIndexSize_8c36e 18 = .ok (.iload_n 2, 1) := by decide +kernel
theorem dJ3_checkFromIndexSize_8c36e_19 : decode cJ3_checkFromIndexSize_8c36e 19 = .ok (.invokestatic 103, 3) := by decide +kernel
theorem dJ3_checkFromIndexSize_8c36e_22 : decode cJ3_checkFromIndexSize_8c36e 22 = .ok (.athrow, 1) := by decide +kernel
theorem dJ3_checkFromIndexSize_8c36e_23 : decode cJ3_checkFromIndexSize_8c36e 23 = .ok (.iload_n 0, 1) := by decide +kernel
theorem dJ3_checkFromIndexSize_8c36e_24 : decode cJ3_checkFromIndexSize_8c36e 24 = .ok (.ireturn, 1) := by decide +kernel
theorem dL_draw_0 : decode cL_draw 0 = .ok (.aload_n 0, 1) := by decide +kernel
theorem dL_draw_1 : decode cL_draw 1 = .ok (.bipush 7, 2) := by decide +kernel
theorem dL_draw_3 : decode cL_draw 3 = .ok (.aload_n 0, 1) := by decide +kernel
theorem dL_draw_4 : decode cL_draw 4 = .ok (.bipush 7, 2) := by decide +kernel
theorem dL_draw_6 : decode cL_draw 6 = .ok (.iaload, 1) := by decide +kernel
theorem dL_draw_7 : decode cL_draw 7 = .ok (.ldc 7, 2) := by decide +kernel
theorem dL_draw_9 : decode cL_draw 9 = .ok (.imul, 1) := by decide +kernel
theorem dL_draw_10 : decode cL_draw 10 = .ok (.sipush 12345, 3) := by decide +kernel
theorem dL_draw_13 : decode cL_draw 13 = .ok (.iadd, 1) := by decide +kernel
theorem dL_draw_14 : decode cL_draw 14 = .ok (.iastore, 1) := by decide +kernel
theorem dL_draw_15 : decode cL_draw 15 = .ok (.aload_n 0, 1) := by decide +kernel
theorem dL_draw_16 : decode cL_draw 16 = .ok (.bipush 7, 2) := by decide +kernel
theorem dL_draw_18 : decode cL_draw 18 = .ok (.iaload, 1) := by decide +kernel
theorem dL_draw_19 : decode cL_draw 19 = .ok (.bipush 16, 2) := by decide +kernel
theorem dL_draw_21 : decode cL_draw 21 = .ok (.ishr, 1) := by decide +kernel
theorem dL_draw_22 : decode cL_draw 22 = .ok (.sipush 32767, 3) := by decide +kernel
theorem dL_draw_25 : decode cL_draw 25 = .ok (.iand, 1) := by decide +kernel
theorem dL_draw_26 : decode cL_draw 26 = .ok (.ireturn, 1) := by decide +kernel
theorem dL_write_0 : decode cL_write 0 = .ok (.aload_n 0, 1) := by decide +kernel
theorem dL_write_1 : decode cL_write 1 = .ok (.iconst 0, 1) := by decide +kernel
theorem dL_write_2 : decode cL_write 2 = .ok (.invokevirtual 8, 3) := by decide +kernel
theorem dL_write_5 : decode cL_write 5 = .ok (.istore_n 2, 1) := by decide +kernel
theorem dL_write_6 : decode cL_write 6 = .ok (.iload_n 2, 1) := by decide +kernel
theorem dL_write_7 : decode cL_write 7 = .ok (.ifCond .le 23, 3) := by decide +kernel
theorem dL_write_10 : decode cL_write 10 = .ok (.aload_n 0, 1) := by decide +kernel
theorem dL_write_11 : decode cL_write 11 = .ok (.iload_n 2, 1) := by decide +kernel
theorem dL_write_12 : decode cL_write 12 = .ok (.bipush 20, 2) := by decide +kernel
theorem dL_write_14 : decode cL_write 14 = .ok (.if_icmp .le 8, 3) := by decide +kernel
theorem dL_write_17 : decode cL_write 17 = .ok (.bipush 20, 2) := by decide +kernel
theorem dL_write_19 : decode cL_write 19 = .ok (.goto 4, 3) := by decide +kernel
theorem dL_write_22 : decode cL_write 22 = .ok (.iload_n 2, 1) := by decide +kernel
theorem dL_write_23 : decode cL_write 23 = .ok (.invokevirtual 8, 3) := by decide +kernel
theorem dL_write_26 : decode cL_write 26 = .ok (.istore_n 2, 1) := by decide +kernel
theorem dL_write_27 : decode cL_write 27 = .ok (.goto (-21), 3) := by decide +kernel
theorem dL_write_30 : decode cL_write 30 = .ok (.iconst 0, 1) := by decide +kernel
theorem dL_write_31 : decode cL_write 31 = .ok (.istore_n 3, 1) := by decide +kernel
theorem dL_write_32 : decode cL_write 32 = .ok (.iload_n 3, 1) := by decide +kernel
theorem dL_write_33 : decode cL_write 33 = .ok (.aload_n 1, 1) := by decide +kernel
theorem dL_write_34 : decode cL_write 34 = .ok (.invokevirtual 14, 3) := by decide +kernel
theorem dL_write_37 : decode cL_write 37 = .ok (.if_icmp .ge 101, 3) := by decide +kernel
theorem dL_write_40 : decode cL_write 40 = .ok (.iconst 5, 1) := by decide +kernel
theorem dL_write_41 : decode cL_write 41 = .ok (.newarray .int, 2) := by decide +kernel
theorem dL_write_43 : decode cL_write 43 = .ok (.astore 4, 2) := by decide +kernel
theorem dL_write_45 : decode cL_write 45 = .ok (.iconst 0, 1) := by decide +kernel
theorem dL_write_46 : decode cL_write 46 = .ok (.istore 5, 2) := by decide +kernel
theorem dL_write_48 : decode cL_write 48 = .ok (.iload 5, 2) := by decide +kernel
theorem dL_write_50 : decode cL_write 50 = .ok (.bipush 20, 2) := by decide +kernel
theorem dL_write_52 : decode cL_write 52 = .ok (.if_icmp .ge 55, 3) := by decide +kernel
theorem dL_write_55 : decode cL_write 55 = .ok (.iload_n 3, 1) := by decide +kernel
theorem dL_write_56 : decode cL_write 56 = .ok (.iload 5, 2) := by decide +kernel
theorem dL_write_58 : decode cL_write 58 = .ok (.iadd, 1) := by decide +kernel
theorem dL_write_59 : decode cL_write 59 = .ok (.aload_n 1, 1) := by decide +kernel
theorem dL_write_60 : decode cL_write 60 = .ok (.invokevirtual 14, 3) := by decide +kernel
theorem dL_write_63 : decode cL_write 63 = .ok (.if_icmp .ge 14, 3) := by decide +kernel
theorem dL_write_66 : decode cL_write 66 = .ok (.aload_n 1, 1) := by decide +kernel
theorem dL_write_67 : decode cL_write 67 = .ok (.iload_n 3, 1) := by decide +kernel
theorem dL_write_68 : decode cL_write 68 = .ok (.iload 5, 2) := by decide +kernel
theorem dL_write_70 : decode cL_write 70 = .ok (.iadd, 1) := by decide +kernel
theorem dL_write_71 : decode cL_write 71 = .ok (.invokevirtual 20, 3) := by decide +kernel
theorem dL_write_74 : decode cL_write 74 = .ok (.goto 5, 3) := by decide +kernel
theorem dL_write_77 : decode cL_write 77 = .ok (.bipush 32, 2) := by decide +kernel
theorem dL_write_79 : decode cL_write 79 = .ok (.istore 6, 2) := by decide +kernel
theorem dL_write_81 : decode cL_write 81 = .ok (.aload 4, 2) := by decide +kernel
theorem dL_write_83 : decode cL_write 83 = .ok (.iload 5, 2) := by decide +kernel
theorem dL_write_85 : decode cL_write 85 = .ok (.iconst 4, 1) := by decide +kernel
theorem dL_write_86 : decode cL_write 86 = .ok (.idiv, 1) := by decide +kernel
theorem dL_write_87 : decode cL_write 87 = .ok (.aload 4, 2) := by decide +kernel
theorem dL_write_89 : decode cL_write 89 = .ok (.iload 5, 2) := by decide +kernel
theorem dL_write_91 : decode cL_write 91 = .ok (.iconst 4, 1) := by decide +kernel
theorem dL_write_92 : decode cL_write 92 = .ok (.idiv, 1) := by decide +kernel
theorem dL_write_93 : decode cL_write 93 = .ok (.iaload, 1) := by decide +kernel
theorem dL_write_94 : decode cL_write 94 = .ok (.bipush 8, 2) := by decide +kernel
theorem dL_write_96 : decode cL_write 96 = .ok (.ishl, 1) := by decide +kernel
theorem dL_write_97 : decode cL_write 97 = .ok (.iload 6, 2) := by decide +kernel
theorem dL_write_99 : decode cL_write 99 = .ok (.ior, 1) := by decide +kernel
theorem dL_write_100 : decode cL_write 100 = .ok (.iastore, 1) := by decide +kernel
theorem dL_write_101 : decode cL_write 101 = .ok (.iinc 5 1, 3) := by decide +kernel
theorem dL_write_104 : decode cL_write 104 = .ok (.goto (-56), 3) := by decide +kernel
theorem dL_write_107 : decode cL_write 107 = .ok (.aload_n 0, 1) := by decide +kernel
theorem dL_write_108 : decode cL_write 108 = .ok (.aload 4, 2) := by decide +kernel
theorem dL_write_110 : decode cL_write 110 = .ok (.iconst 0, 1) := by decide +kernel
theorem dL_write_111 : decode cL_write 111 = .ok (.iaload, 1) := by decide +kernel
theorem dL_write_112 : decode cL_write 112 = .ok (.aload 4, 2) := by decide +kernel
theorem dL_write_114 : decode cL_write 114 = .ok (.iconst 1, 1) := by decide +kernel
theorem dL_write_115 : decode cL_write 115 = .ok (.iaload, 1) := by decide +kernel
theorem dL_write_116 : decode cL_write 116 = .ok (.aload 4, 2) := by decide +kernel
theorem dL_write_118 : decode cL_write 118 = .ok (.iconst 2, 1) := by decide +kernel
theorem dL_write_119 : decode cL_write 119 = .ok (.iaload, 1) := by decide +kernel
theorem dL_write_120 : decode cL_write 120 = .ok (.aload 4, 2) := by decide +kernel
theorem dL_write_122 : decode cL_write 122 = .ok (.iconst 3, 1) := by decide +kernel
theorem dL_write_123 : decode cL_write 123 = .ok (.iaload, 1) := by decide +kernel
theorem dL_write_124 : decode cL_write 124 = .ok (.aload 4, 2) := by decide +kernel
theorem dL_write_126 : decode cL_write 126 = .ok (.iconst 4, 1) := by decide +kernel
theorem dL_write_127 : decode cL_write 127 = .ok (.iaload, 1) := by decide +kernel
theorem dL_write_128 : decode cL_write 128 = .ok (.invokevirtual 24, 3) := by decide +kernel
theorem dL_write_131 : decode cL_write 131 = .ok (.istore_n 2, 1) := by decide +kernel
theorem dL_write_132 : decode cL_write 132 = .ok (.iinc 3 20, 3) := by decide +kernel
theorem dL_write_135 : decode cL_write 135 = .ok (.goto (-103), 3) := by decide +kernel
theorem dL_write_138 : decode cL_write 138 = .ok (.aload_n 0, 1) := by decide +kernel
theorem dL_write_139 : decode cL_write 139 = .ok (.bipush 20, 2) := by decide +kernel
theorem dL_write_141 : decode cL_write 141 = .ok (.aload_n 1, 1) := by decide +kernel
theorem dL_write_142 : decode cL_write 142 = .ok (.invokevirtual 14, 3) := by decide +kernel
theorem dL_write_145 : decode cL_write 145 = .ok (.bipush 20, 2) := by decide +kernel
theorem dL_write_147 : decode cL_write 147 = .ok (.irem, 1) := by decide +kernel
theorem dL_write_148 : decode cL_write 148 = .ok (.isub, 1) := by decide +kernel
theorem dL_write_149 : decode cL_write 149 = .ok (.bipush 20, 2) := by decide +kernel
theorem dL_write_151 : decode cL_write 151 = .ok (.irem, 1) := by decide +kernel
theorem dL_write_152 : decode cL_write 152 = .ok (.invokevirtual 8, 3) := by decide +kernel
theorem dL_write_155 : decode cL_write 155 = .ok (.istore_n 2, 1) := by decide +kernel
theorem dL_write_156 : decode cL_write 156 = .ok (.return_, 1) := by decide +kernel
theorem dL_loads_0 : decode cL_loads 0 = .ok (.aload_n 0, 1) := by decide +kernel
theorem dL_loads_1 : decode cL_loads 1 = .ok (.aload_n 1, 1) := by decide +kernel
theorem dL_loads_2 : decode cL_loads 2 = .ok (.invokestatic 28, 3) := by decide +kernel
theorem dL_loads_5 : decode cL_loads 5 = .ok (.aload_n 0, 1) := by decide +kernel
theorem dL_loads_6 : decode cL_loads 6 = .ok (.invokevirtual 34, 3) := by decide +kernel
theorem dL_loads_9 : decode cL_loads 9 = .ok (.ifCond .lt 25, 3) := by decide +kernel
theorem dL_loads_12 : decode cL_loads 12 = .ok (.aload_n 0, 1) := by decide +kernel
theorem dL_loads_13 : decode cL_loads 13 = .ok (.invokevirtual 37, 3) := by decide +kernel
theorem dL_loads_16 : decode cL_loads 16 = .ok (.bipush (-2), 2) := by decide +kernel
theorem dL_loads_18 : decode cL_loads 18 = .ok (.if_icmp .ne 16, 3) := by decide +kernel
theorem dL_loads_21 : decode cL_loads 21 = .ok (.aload_n 0, 1) := by decide +kernel
theorem dL_loads_22 : decode cL_loads 22 = .ok (.iconst 1, 1) := by decide +kernel
theorem dL_loads_23 : decode cL_loads 23 = .ok (.invokevirtual 8, 3) := by decide +kernel
theorem dL_loads_26 : decode cL_loads 26 = .ok (.iconst (-1), 1) := by decide +kernel
theorem dL_loads_27 : decode cL_loads 27 = .ok (.if_icmp .ne 7, 3) := by decide +kernel
theorem dL_loads_30 : decode cL_loads 30 = .ok (.iconst 1, 1) := by decide +kernel
theorem dL_loads_31 : decode cL_loads 31 = .ok (.goto 4, 3) := by decide +kernel
theorem dL_loads_34 : decode cL_loads 34 = .ok (.iconst 0, 1) := by decide +kernel
theorem dL_loads_35 : decode cL_loads 35 = .ok (.ireturn, 1) := by decide +kernel
theorem dL_text_0 : decode cL_text 0 = .ok (.new 40, 3) := by decide +kernel
theorem dL_text_3 : decode cL_text 3 = .ok (.dup, 1) := by decide +kernel
theorem dL_text_4 : decode cL_text 4 = .ok (.invokespecial 42, 3) := by decide +kernel
theorem dL_text_7 : decode cL_text 7 = .ok (.astore_n 2, 1) := by decide +kernel
theorem dL_text_8 : decode cL_text 8 = .ok (.iload_n 1, 1) := by decide +kernel
theorem dL_text_9 : decode cL_text 9 = .ok (.ifCond .eq 10, 3) := by decide +kernel
theorem dL_text_12 : decode cL_text 12 = .ok (.aload_n 0, 1) := by decide +kernel
theorem dL_text_13 : decode cL_text 13 = .ok (.invokevirtual 43, 3) := by decide +kernel
theorem dL_text_16 : decode cL_text 16 = .ok (.goto 7, 3) := by decide +kernel
theorem dL_text_19 : decode cL_text 19 = .ok (.aload_n 0, 1) := by decide +kernel
theorem dL_text_20 : decode cL_text 20 = .ok (.invokevirtual 46, 3) := by decide +kernel
theorem dL_text_23 : decode cL_text 23 = .ok (.istore_n 3, 1) := by decide +kernel
theorem dL_text_24 : decode cL_text 24 = .ok (.iconst 0, 1) := by decide +kernel
theorem dL_text_25 : decode cL_text 25 = .ok (.istore 4, 2) := by decide +kernel
theorem dL_text_27 : decode cL_text 27 = .ok (.iload 4, 2) := by decide +kernel
theorem dL_text_29 : decode cL_text 29 = .ok (.iload_n 3, 1) := by decide +kernel
theorem dL_text_30 : decode cL_text 30 = .ok (.if_icmp .ge 34, 3) := by decide +kernel
theorem dL_text_33 : decode cL_text 33 = .ok (.aload_n 2, 1) := by decide +kernel
theorem dL_text_34 : decode cL_text 34 = .ok (.iload_n 1, 1) := by decide +kernel
theorem dL_text_35 : decode cL_text 35 = .ok (.ifCond .eq 12, 3) := by decide +kernel
theorem dL_text_38 : decode cL_text 38 = .ok (.aload_n 0, 1) := by decide +kernel
theorem dL_text_39 : decode cL_text 39 = .ok (.iload 4, 2) := by decide +kernel
theorem dL_text_41 : decode cL_text 41 = .ok (.invokevirtual 49, 3) := by decide +kernel
theorem dL_text_44 : decode cL_text 44 = .ok (.goto 9, 3) := by decide +kernel
theorem dL_text_47 : decode cL_text 47 = .ok (.aload_n 0, 1) := by decide +kernel
theorem dL_text_48 : decode cL_text 48 = .ok (.iload 4, 2) := by decide +kernel
theorem dL_text_50 : decode cL_text 50 = .ok (.invokevirtual 52, 3) := by decide +kernel
theorem dL_text_53 : decode cL_text 53 = .ok (.i2c, 1) := by decide +kernel
theorem dL_text_54 : decode cL_text 54 = .ok (.invokevirtual 55, 3) := by decide +kernel
theorem dL_text_57 : decode cL_text 57 = .ok (.pop, 1) := by decide +kernel
theorem dL_text_58 : decode cL_text 58 = .ok (.iinc 4 1, 3) := by decide +kernel
theorem dL_text_61 : decode cL_text 61 = .ok (.goto (-34), 3) := by decide +kernel
theorem dL_text_64 : decode cL_text 64 = .ok (.aload_n 2, 1) := by decide +kernel
theorem dL_text_65 : decode cL_text 65 = .ok (.invokevirtual 58, 3) := by decide +kernel
theorem dL_text_68 : decode cL_text 68 = .ok (.areturn, 1) := by decide +kernel
theorem dL_setup_0 : decode cL_setup 0 = .ok (.iconst 2, 1) := by decide +kernel
theorem dL_setup_1 : decode cL_setup 1 = .ok (.aload_n 0, 1) := by decide +kernel
theorem dL_setup_2 : decode cL_setup 2 = .ok (.invokestatic 62, 3) := by decide +kernel
theorem dL_setup_5 : decode cL_setup 5 = .ok (.iconst 4, 1) := by decide +kernel
theorem dL_setup_6 : decode cL_setup 6 = .ok (.irem, 1) := by decide +kernel
theorem dL_setup_7 : decode cL_setup 7 = .ok (.iadd, 1) := by decide +kernel
theorem dL_setup_8 : decode cL_setup 8 = .ok (.istore_n 1, 1) := by decide +kernel
theorem dL_setup_9 : decode cL_setup 9 = .ok (.bipush 10, 2) := by decide +kernel
theorem dL_setup_11 : decode cL_setup 11 = .ok (.newarray .int, 2) := by decide +kernel
theorem dL_setup_13 : decode cL_setup 13 = .ok (.astore_n 2, 1) := by decide +kernel
theorem dL_setup_14 : decode cL_setup 14 = .ok (.new 40, 3) := by decide +kernel
theorem dL_setup_17 : decode cL_setup 17 = .ok (.dup, 1) := by decide +kernel
theorem dL_setup_18 : decode cL_setup 18 = .ok (.ldc 66, 2) := by decide +kernel
theorem dL_setup_20 : decode cL_setup 20 = .ok (.invokespecial 68, 3) := by decide +kernel
theorem dL_setup_23 : decode cL_setup 23 = .ok (.bipush 40, 2) := by decide +kernel
theorem dL_setup_25 : decode cL_setup 25 = .ok (.aload_n 0, 1) := by decide +kernel
theorem dL_setup_26 : decode cL_setup 26 = .ok (.invokestatic 62, 3) := by decide +kernel
theorem dL_setup_29 : decode cL_setup 29 = .ok (.bipush 60, 2) := by decide +kernel
theorem dL_setup_31 : decode cL_setup 31 = .ok (.irem, 1) := by decide +kernel
theorem dL_setup_32 : decode cL_setup 32 = .ok (.iadd, 1) := by decide +kernel
theorem dL_setup_33 : decode cL_setup 33 = .ok (.invokevirtual 71, 3) := by decide +kernel
theorem dL_setup_36 : decode cL_setup 36 = .ok (.ldc 74, 2) := by decide +kernel
theorem dL_setup_38 : decode cL_setup 38 = .ok (.invokevirtual 76, 3) := by decide +kernel
theorem dL_setup_41 : decode cL_setup 41 = .ok (.astore_n 3, 1) := by decide +kernel
theorem dL_setup_42 : decode cL_setup 42 = .ok (.iconst 1, 1) := by decide +kernel
theorem dL_setup_43 : decode cL_setup 43 = .ok (.istore 4, 2) := by decide +kernel
theorem dL_setup_45 : decode cL_setup 45 = .ok (.iload 4, 2) := by decide +kernel
theorem dL_setup_47 : decode cL_setup 47 = .ok (.iload_n 1, 1) := by decide +kernel
theorem dL_setup_48 : decode cL_setup 48 = .ok (.if_icmp .gt 41, 3) := by decide +kernel
theorem dL_setup_51 : decode cL_setup 51 = .ok (.aload_n 2, 1) := by decide +kernel
theorem dL_setup_52 : decode cL_setup 52 = .ok (.iload 4, 2) := by decide +kernel
theorem dL_setup_54 : decode cL_setup 54 = .ok (.aload_n 0, 1) := by decide +kernel
theorem dL_setup_55 : decode cL_setup 55 = .ok (.invokestatic 62, 3) := by decide +kernel
theorem dL_setup_58 : decode cL_setup 58 = .ok (.bipush 40, 2) := by decide +kernel
theorem dL_setup_60 : decode cL_setup 60 = .ok (.irem, 1) := by decide +kernel
theorem dL_setup_61 : decode cL_setup 61 = .ok (.iastore, 1) := by decide +kernel
theorem dL_setup_62 : decode cL_setup 62 = .ok (.aload_n 3, 1) := by decide +kernel
theorem dL_setup_63 : decode cL_setup 63 = .ok (.ldc 79, 2) := by decide +kernel
theorem dL_setup_65 : decode cL_setup 65 = .ok (.invokevirtual 76, 3) := by decide +kernel
theorem dL_setup_68 : decode cL_setup 68 = .ok (.bipush 97, 2) := by decide +kernel
theorem dL_setup_70 : decode cL_setup 70 = .ok (.iload 4, 2) := by decide +kernel
theorem dL_setup_72 : decode cL_setup 72 = .ok (.iadd, 1) := by decide +kernel
theorem dL_setup_73 : decode cL_setup 73 = .ok (.i2c, 1) := by decide +kernel
theorem dL_setup_74 : decode cL_setup 74 = .ok (.invokevirtual 55, 3) := by decide +kernel
theorem dL_setup_77 : decode cL_setup 77 = .ok (.ldc 74, 2) := by decide +kernel
theorem dL_setup_79 : decode cL_setup 79 = .ok (.invokevirtual 76, 3) := by decide +kernel
theorem dL_setup_82 : decode cL_setup 82 = .ok (.pop, 1) := by decide +kernel
theorem dL_setup_83 : decode cL_setup 83 = .ok (.iinc 4 1, 3) := by decide +kernel
theorem dL_setup_86 : decode cL_setup 86 = .ok (.goto (-41), 3) := by decide +kernel
theorem dL_setup_89 : decode cL_setup 89 = .ok (.aload_n 0, 1) := by decide +kernel
theorem dL_setup_90 : decode cL_setup 90 = .ok (.invokestatic 62, 3) := by decide +kernel
theorem dL_setup_93 : decode cL_setup 93 = .ok (.bipush 7, 2) := by decide +kernel
theorem dL_setup_95 : decode cL_setup 95 = .ok (.irem, 1) := by decide +kernel
theorem dL_setup_96 : decode cL_setup 96 = .ok (.istore 4, 2) := by decide +kernel
theorem dL_setup_98 : decode cL_setup 98 = .ok (.iload 4, 2) := by decide +kernel
theorem dL_setup_100 : decode cL_setup 100 = .ok (.ifCond .le 232, 3) := by decide +kernel
theorem dL_setup_103 : decode cL_setup 103 = .ok (.aload_n 0, 1) := by decide +kernel
theorem dL_setup_104 : decode cL_setup 104 = .ok (.invokestatic 62, 3) := by decide +kernel
theorem dL_setup_107 : decode cL_setup 107 = .ok (.iload_n 1, 1) := by decide +kernel
theorem dL_setup_108 : decode cL_setup 108 = .ok (.iconst 1, 1) := by decide +kernel
theorem dL_setup_109 : decode cL_setup 109 = .ok (.iadd, 1) := by decide +kernel
theorem dL_setup_110 : decode cL_setup 110 = .ok (.irem, 1) := by decide +kernel
theorem dL_setup_111 : decode cL_setup 111 = .ok (.istore 5, 2) := by decide +kernel
theorem dL_setup_113 : decode cL_setup 113 = .ok (.iload 5, 2) := by decide +kernel
theorem dL_setup_115 : decode cL_setup 115 = .ok (.iconst 1, 1) := by decide +kernel
theorem dL_setup_116 : decode cL_setup 116 = .ok (.iadd, 1) := by decide +kernel
theorem dL_setup_117 : decode cL_setup 117 = .ok (.aload_n 0, 1) := by decide +kernel
theorem dL_setup_118 : decode cL_setup 118 = .ok (.invokestatic 62, 3) := by decide +kernel
theorem dL_setup_121 : decode cL_setup 121 = .ok (.iload_n 1, 1) := by decide +kernel
theorem dL_setup_122 : decode cL_setup 122 = .ok (.irem, 1) := by decide +kernel
theorem dL_setup_123 : decode cL_setup 123 = .ok (.iadd, 1) := by decide +kernel
theorem dL_setup_124 : decode cL_setup 124 = .ok (.iload_n 1, 1) := by decide +kernel
theorem dL_setup_125 : decode cL_setup 125 = .ok (.iconst 1, 1) := by decide +kernel
theorem dL_setup_126 : decode cL_setup 126 = .ok (.iadd, 1) := by decide +kernel
theorem dL_setup_127 : decode cL_setup 127 = .ok (.irem, 1) := by decide +kernel
theorem dL_setup_128 : decode cL_setup 128 = .ok (.istore 6, 2) := by decide +kernel
theorem dL_setup_130 : decode cL_setup 130 = .ok (.aload_n 2, 1) := by decide +kernel
theorem dL_setup_131 : decode cL_setup 131 = .ok (.iload 6, 2) := by decide +kernel
theorem dL_setup_133 : decode cL_setup 133 = .ok (.iaload, 1) := by decide +kernel
theorem dL_setup_134 : decode cL_setup 134 = .ok (.aload_n 2, 1) := by decide +kernel
theorem dL_setup_135 : decode cL_setup 135 = .ok (.iload 5, 2) := by decide +kernel
theorem dL_setup_137 : decode cL_setup 137 = .ok (.iaload, 1) := by decide +kernel
theorem dL_setup_138 : decode cL_setup 138 = .ok (.isub, 1) := by decide +kernel
theorem dL_setup_139 : decode cL_setup 139 = .ok (.istore 7, 2) := by decide +kernel
theorem dL_setup_141 : decode cL_setup 141 = .ok (.iload 7, 2) := by decide +kernel
theorem dL_setup_143 : decode cL_setup 143 = .ok (.ifCond .lt 12, 3) := by decide +kernel
theorem dL_setup_146 : decode cL_setup 146 = .ok (.aload_n 0, 1) := by decide +kernel
theorem dL_setup_147 : decode cL_setup 147 = .ok (.invokestatic 62, 3) := by decide +kernel
theorem dL_setup_150 : decode cL_setup 150 = .ok (.iconst 2, 1) := by decide +kernel
theorem dL_setup_151 : decode cL_setup 151 = .ok (.irem, 1) := by decide +kernel
theorem dL_setup_152 : decode cL_setup 152 = .ok (.ifCond .ne 7, 3) := by decide +kernel
theorem dL_setup_155 : decode cL_setup 155 = .ok (.iconst 1, 1) := by decide +kernel
theorem dL_setup_156 : decode cL_setup 156 = .ok (.goto 4, 3) := by decide +kernel
theorem dL_setup_159 : decode cL_setup 159 = .ok (.iconst 0, 1) := by decide +kernel
theorem dL_setup_160 : decode cL_setup 160 = .ok (.istore 8, 2) := by decide +kernel
theorem dL_setup_162 : decode cL_setup 162 = .ok (.iload 8, 2) := by decide +kernel
theorem dL_setup_164 : decode cL_setup 164 = .ok (.ifCond .eq 20, 3) := by decide +kernel
theorem dL_setup_167 : decode cL_setup 167 = .ok (.iconst 0, 1) := by decide +kernel
theorem dL_setup_168 : decode cL_setup 168 = .ok (.iload 7, 2) := by decide +kernel
theorem dL_setup_170 : decode cL_setup 170 = .ok (.invokestatic 81, 3) := by decide +kernel
theorem dL_setup_173 : decode cL_setup 173 = .ok (.aload_n 0, 1) := by decide +kernel
theorem dL_setup_174 : decode cL_setup 174 = .ok (.invokestatic 62, 3) := by decide +kernel
theorem dL_setup_177 : decode cL_setup 177 = .ok (.bipush 12, 2) := by decide +kernel
theorem dL_setup_179 : decode cL_setup 179 = .ok (.irem, 1) := by decide +kernel
theorem dL_setup_180 : decode cL_setup 180 = .ok (.iadd, 1) := by decide +kernel
theorem dL_setup_181 : decode cL_setup 181 = .ok (.goto 17, 3) := by decide +kernel
theorem dL_setup_184 : decode cL_setup 184 = .ok (.iconst 0, 1) := by decide +kernel
theorem dL_setup_185 : decode cL_setup 185 = .ok (.iload 7, 2) := by decide +kernel
theorem dL_setup_187 : decode cL_setup 187 = .ok (.aload_n 0, 1) := by decide +kernel
theorem dL_setup_188 : decode cL_setup 188 = .ok (.invokestatic 62, 3) := by decide +kernel
theorem dL_setup_191 : decode cL_setup 191 = .ok (.bipush 12, 2) := by decide +kernel
theorem dL_setup_193 : decode cL_setup 193 = .ok (.irem, 1) := by decide +kernel
theorem dL_setup_194 : decode cL_setup 194 = .ok (.isub, 1) := by decide +kernel
theorem dL_setup_195 : decode cL_setup 195 = .ok (.invokestatic 81, 3) := by decide +kernel
theorem dL_setup_198 : decode cL_setup 198 = .ok (.istore 9, 2) := by decide +kernel
theorem dL_setup_200 : decode cL_setup 200 = .ok (.aload_n 3, 1) := by decide +kernel
theorem dL_setup_201 : decode cL_setup 201 = .ok (.ldc 87, 2) := by decide +kernel
theorem dL_setup_203 : decode cL_setup 203 = .ok (.invokevirtual 76, 3) := by decide +kernel
theorem dL_setup_206 : decode cL_setup 206 = .ok (.iload 5, 2) := by decide +kernel
theorem dL_setup_208 : decode cL_setup 208 = .ok (.ifCond .ne 8, 3) := by decide +kernel
theorem dL_setup_211 : decode cL_setup 211 = .ok (.ldc 89, 2) := by decide +kernel
theorem dL_setup_213 : decode cL_setup 213 = .ok (.goto 27, 3) := by decide +kernel
theorem dL_setup_216 : decode cL_setup 216 = .ok (.new 40, 3) := by decide +kernel
theorem dL_setup_219 : decode cL_setup 219 = .ok (.dup, 1) := by decide +kernel
theorem dL_setup_220 : decode cL_setup 220 = .ok (.invokespecial 42, 3) := by decide +kernel
theorem dL_setup_223 : decode cL_setup 223 = .ok (.ldc 91, 2) := by decide +kernel
theorem dL_setup_225 : decode cL_setup 225 = .ok (.invokevirtual 76, 3) := by decide +kernel
theorem dL_setup_228 : decode cL_setup 228 = .ok (.bipush 97, 2) := by decide +kernel
theorem dL_setup_230 : decode cL_setup 230 = .ok (.iload 5, 2) := by decide +kernel
theorem dL_setup_232 : decode cL_setup 232 = .ok (.iadd, 1) := by decide +kernel
theorem dL_setup_233 : decode cL_setup 233 = .ok (.i2c, 1) := by decide +kernel
theorem dL_setup_234 : decode cL_setup 234 = .ok (.invokevirtual 55, 3) := by decide +kernel
theorem dL_setup_237 : decode cL_setup 237 = .ok (.invokevirtual 58, 3) := by decide +kernel
theorem dL_setup_240 : decode cL_setup 240 = .ok (.invokevirtual 76, 3) := by decide +kernel
theorem dL_setup_243 : decode cL_setup 243 = .ok (.bipush 32, 2) := by decide +kernel
theorem dL_setup_245 : decode cL_setup 245 = .ok (.invokevirtual 55, 3) := by decide +kernel
theorem dL_setup_248 : decode cL_setup 248 = .ok (.iload 6, 2) := by decide +kernel
theorem dL_setup_250 : decode cL_setup 250 = .ok (.ifCond .ne 8, 3) := by decide +kernel
theorem dL_setup_253 : decode cL_setup 253 = .ok (.ldc 89, 2) := by decide +kernel
theorem dL_setup_255 : decode cL_setup 255 = .ok (.goto 27, 3) := by decide +kernel
theorem dL_setup_258 : decode cL_setup 258 = .ok (.new 40, 3) := by decide +kernel
theorem dL_setup_261 : decode cL_setup 261 = .ok (.dup, 1) := by decide +kernel
theorem dL_setup_262 : decode cL_setup 262 = .ok (.invokespecial 42, 3) := by decide +kernel
theorem dL_setup_265 : decode cL_setup 265 = .ok (.ldc 91, 2) := by decide +kernel
theorem dL_setup_267 : decode cL_setup 267 = .ok (.invokevirtual 76, 3) := by decide +kernel
theorem dL_setup_270 : decode cL_setup 270 = .ok (.bipush 97, 2) := by decide +kernel
theorem dL_setup_272 : decode cL_setup 272 = .ok (.iload 6, 2) := by decide +kernel
theorem dL_setup_274 : decode cL_setup 274 = .ok (.iadd, 1) := by decide +kernel
theorem dL_setup_275 : decode cL_setup 275 = .ok (.i2c, 1) := by decide +kernel
theorem dL_setup_276 : decode cL_setup 276 = .ok (.invokevirtual 55, 3) := by decide +kernel
theorem dL_setup_279 : decode cL_setup 279 = .ok (.invokevirtual 58, 3) := by decide +kernel
theorem dL_setup_282 : decode cL_setup 282 = .ok (.invokevirtual 76, 3) := by decide +kernel
theorem dL_setup_285 : decode cL_setup 285 = .ok (.iload 8, 2) := by decide +kernel
theorem dL_setup_287 : decode cL_setup 287 = .ok (.ifCond .eq 8, 3) := by decide +kernel
theorem dL_setup_290 : decode cL_setup 290 = .ok (.ldc 93, 2) := by decide +kernel
theorem dL_setup_292 : decode cL_setup 292 = .ok (.goto 5, 3) := by decide +kernel
theorem dL_setup_295 : decode cL_setup 295 = .ok (.ldc 95, 2) := by decide +kernel
theorem dL_setup_297 : decode cL_setup 297 = .ok (.invokevirtual 76, 3) := by decide +kernel
theorem dL_setup_300 : decode cL_setup 300 = .ok (.iload 9, 2) := by decide +kernel
theorem dL_setup_302 : decode cL_setup 302 = .ok (.invokevirtual 71, 3) := by decide +kernel
theorem dL_setup_305 : decode cL_setup 305 = .ok (.aload_n 0, 1) := by decide +kernel
theorem dL_setup_306 : decode cL_setup 306 = .ok (.invokestatic 62, 3) := by decide +kernel
theorem dL_setup_309 : decode cL_setup 309 = .ok (.bipush 7, 2) := by decide +kernel
theorem dL_setup_311 : decode cL_setup 311 = .ok (.irem, 1) := by decide +kernel
theorem dL_setup_312 : decode cL_setup 312 = .ok (.ifCond .ne 8, 3) := by decide +kernel
theorem dL_setup_315 : decode cL_setup 315 = .ok (.ldc 97, 2) := by decide +kernel
theorem dL_setup_317 : decode cL_setup 317 = .ok (.goto 5, 3) := by decide +kernel
theorem dL_setup_320 : decode cL_setup 320 = .ok (.ldc 74, 2) := by decide +kernel
theorem dL_setup_322 : decode cL_setup 322 = .ok (.invokevirtual 76, 3) := by decide +kernel
theorem dL_setup_325 : decode cL_setup 325 = .ok (.pop, 1) := by decide +kernel
theorem dL_setup_326 : decode cL_setup 326 = .ok (.iinc 4 (-1), 3) := by decide +kernel
theorem dL_setup_329 : decode cL_setup 329 = .ok (.goto (-231), 3) := by decide +kernel
theorem dL_setup_332 : decode cL_setup 332 = .ok (.iconst 1, 1) := by decide +kernel
theorem dL_setup_333 : decode cL_setup 333 = .ok (.aload_n 0, 1) := by decide +kernel
theorem dL_setup_334 : decode cL_setup 334 = .ok (.invokestatic 62, 3) := by decide +kernel
theorem dL_setup_337 : decode cL_setup 337 = .ok (.iload_n 1, 1) := by decide +kernel
theorem dL_setup_338 : decode cL_setup 338 = .ok (.irem, 1) := by decide +kernel
theorem dL_setup_339 : decode cL_setup 339 = .ok (.iadd, 1) := by decide +kernel
theorem dL_setup_340 : decode cL_setup 340 = .ok (.istore 4, 2) := by decide +kernel
theorem dL_setup_342 : decode cL_setup 342 = .ok (.aload_n 3, 1) := by decide +kernel
theorem dL_setup_343 : decode cL_setup 343 = .ok (.aload_n 0, 1) := by decide +kernel
theorem dL_setup_344 : decode cL_setup 344 = .ok (.invokestatic 62, 3) := by decide +kernel
theorem dL_setup_347 : decode cL_setup 347 = .ok (.iconst 3, 1) := by decide +kernel
theorem dL_setup_348 : decode cL_setup 348 = .ok (.irem, 1) := by decide +kernel
theorem dL_setup_349 : decode cL_setup 349 = .ok (.ifCond .ne 47, 3) := by decide +kernel
theorem dL_setup_352 : decode cL_setup 352 = .ok (.new 40, 3) := by decide +kernel
theorem dL_setup_355 : decode cL_setup 355 = .ok (.dup, 1) := by decide +kernel
theorem dL_setup_356 : decode cL_setup 356 = .ok (.invokespecial 42, 3) := by decide +kernel
theorem dL_setup_359 : decode cL_setup 359 = .ok (.ldc 99, 2) := by decide +kernel
theorem dL_setup_361 : decode cL_setup 361 = .ok (.invokevirtual 76, 3) := by decide +kernel
theorem dL_setup_364 : decode cL_setup 364 = .ok (.bipush 97, 2) := by decide +kernel
theorem dL_setup_366 : decode cL_setup 366 = .ok (.iload 4, 2) := by decide +kernel
theorem dL_setup_368 : decode cL_setup 368 = .ok (.iadd, 1) := by decide +kernel
theorem dL_setup_369 : decode cL_setup 369 = .ok (.i2c, 1) := by decide +kernel
theorem dL_setup_370 : decode cL_setup 370 = .ok (.invokevirtual 55, 3) := by decide +kernel
theorem dL_setup_373 : decode cL_setup 373 = .ok (.ldc 101, 2) := by decide +kernel
theorem dL_setup_375 : decode cL_setup 375 = .ok (.invokevirtual 76, 3) := by decide +kernel
theorem dL_setup_378 : decode cL_setup 378 = .ok (.aload_n 2, 1) := by decide +kernel
theorem dL_setup_379 : decode cL_setup 379 = .ok (.iload 4, 2) := by decide +kernel
theorem dL_setup_381 : decode cL_setup 381 = .ok (.iaload, 1) := by decide +kernel
theorem dL_setup_382 : decode cL_setup 382 = .ok (.invokevirtual 71, 3) := by decide +kernel
theorem dL_setup_385 : decode cL_setup 385 = .ok (.ldc 74, 2) := by decide +kernel
theorem dL_setup_387 : decode cL_setup 387 = .ok (.invokevirtual 76, 3) := by decide +kernel
theorem dL_setup_390 : decode cL_setup 390 = .ok (.invokevirtual 58, 3) := by decide +kernel
theorem dL_setup_393 : decode cL_setup 393 = .ok (.goto 5, 3) := by decide +kernel
theorem dL_setup_396 : decode cL_setup 396 = .ok (.ldc 91, 2) := by decide +kernel
theorem dL_setup_398 : decode cL_setup 398 = .ok (.invokevirtual 76, 3) := by decide +kernel
theorem dL_setup_401 : decode cL_setup 401 = .ok (.invokevirtual 58, 3) := by decide +kernel
theorem dL_setup_404 : decode cL_setup 404 = .ok (.areturn, 1) := by decide +kernel
theorem dL_acts_0 : decode cL_acts 0 = .ok (.aload_n 1, 1) := by decide +kernel
theorem dL_acts_1 : decode cL_acts 1 = .ok (.invokestatic 62, 3) := by decide +kernel
theorem dL_acts_4 : decode cL_acts 4 = .ok (.aload_n 0, 1) := by decide +kernel
theorem dL_acts_5 : decode cL_acts 5 = .ok (.iconst 1, 1) := by decide +kernel
theorem dL_acts_6 : decode cL_acts 6 = .ok (.invokevirtual 103, 3) := by decide +kernel
theorem dL_acts_9 : decode cL_acts 9 = .ok (.irem, 1) := by decide +kernel
theorem dL_acts_10 : decode cL_acts 10 = .ok (.istore_n 2, 1) := by decide +kernel
theorem dL_acts_11 : decode cL_acts 11 = .ok (.aload_n 1, 1) := by decide +kernel
theorem dL_acts_12 : decode cL_acts 12 = .ok (.invokestatic 62, 3) := by decide +kernel
theorem dL_acts_15 : decode cL_acts 15 = .ok (.aload_n 0, 1) := by decide +kernel
theorem dL_acts_16 : decode cL_acts 16 = .ok (.iconst 1, 1) := by decide +kernel
theorem dL_acts_17 : decode cL_acts 17 = .ok (.invokevirtual 103, 3) := by decide +kernel
theorem dL_acts_20 : decode cL_acts 20 = .ok (.irem, 1) := by decide +kernel
theorem dL_acts_21 : decode cL_acts 21 = .ok (.istore_n 3, 1) := by decide +kernel
theorem dL_acts_22 : decode cL_acts 22 = .ok (.aload_n 1, 1) := by decide +kernel
theorem dL_acts_23 : decode cL_acts 23 = .ok (.invokestatic 62, 3) := by decide +kernel
theorem dL_acts_26 : decode cL_acts 26 = .ok (.iconst 1, 1) := by decide +kernel
theorem dL_acts_27 : decode cL_acts 27 = .ok (.aload_n 0, 1) := by decide +kernel
theorem dL_acts_28 : decode cL_acts 28 = .ok (.iconst 2, 1) := by decide +kernel
theorem dL_acts_29 : decode cL_acts 29 = .ok (.invokevirtual 103, 3) := by decide +kernel
theorem dL_acts_32 : decode cL_acts 32 = .ok (.invokestatic 81, 3) := by decide +kernel
theorem dL_acts_35 : decode cL_acts 35 = .ok (.irem, 1) := by decide +kernel
theorem dL_acts_36 : decode cL_acts 36 = .ok (.istore 4, 2) := by decide +kernel
theorem dL_acts_38 : decode cL_acts 38 = .ok (.aload_n 1, 1) := by decide +kernel
theorem dL_acts_39 : decode cL_acts 39 = .ok (.invokestatic 62, 3) := by decide +kernel
theorem dL_acts_42 : decode cL_acts 42 = .ok (.bipush 20, 2) := by decide +kernel
theorem dL_acts_44 : decode cL_acts 44 = .ok (.irem, 1) := by decide +kernel
theorem dL_acts_45 : decode cL_acts 45 = .ok (.tableswitch 280 0 17 #[87, 87, 87, 87, 87, 87, 111, 122, 122, 140, 140, 159, 184, 194, 221, 240, 249, 258], 87) := by decide +kernel
theorem dL_acts_132 : decode cL_acts 132 = .ok (.aload_n 0, 1) := by decide +kernel
theorem dL_acts_133 : decode cL_acts 133 = .ok (.iload_n 2, 1) := by decide +kernel
theorem dL_acts_134 : decode cL_acts 134 = .ok (.iload_n 3, 1) := by decide +kernel
theorem dL_acts_135 : decode cL_acts 135 = .ok (.aload_n 1, 1) := by decide +kernel
theorem dL_acts_136 : decode cL_acts 136 = .ok (.invokestatic 62, 3) := by decide +kernel
theorem dL_acts_139 : decode cL_acts 139 = .ok (.iconst 2, 1) := by decide +kernel
theorem dL_acts_140 : decode cL_acts 140 = .ok (.irem, 1) := by decide +kernel
theorem dL_acts_141 : decode cL_acts 141 = .ok (.aload_n 1, 1) := by decide +kernel
theorem dL_acts_142 : decode cL_acts 142 = .ok (.invokestatic 62, 3) := by decide +kernel
theorem dL_acts_145 : decode cL_acts 145 = .ok (.bipush 40, 2) := by decide +kernel
theorem dL_acts_147 : decode cL_acts 147 = .ok (.irem, 1) := by decide +kernel
theorem dL_acts_148 : decode cL_acts 148 = .ok (.invokevirtual 106, 3) := by decide +kernel
theorem dL_acts_151 : decode cL_acts 151 = .ok (.istore 5, 2) := by decide +kernel
theorem dL_acts_153 : decode cL_acts 153 = .ok (.goto 250, 3) := by decide +kernel
theorem dL_acts_156 : decode cL_acts 156 = .ok (.aload_n 0, 1) := by decide +kernel
theorem dL_acts_157 : decode cL_acts 157 = .ok (.iload 4, 2) := by decide +kernel
theorem dL_acts_159 : decode cL_acts 159 = .ok (.invokevirtual 110, 3) := by decide +kernel
theorem dL_acts_162 : decode cL_acts 162 = .ok (.istore 5, 2) := by decide +kernel
theorem dL_acts_164 : decode cL_acts 164 = .ok (.goto 239, 3) := by decide +kernel
theorem dL_acts_167 : decode cL_acts 167 = .ok (.aload_n 0, 1) := by decide +kernel
theorem dL_acts_168 : decode cL_acts 168 = .ok (.iload 4, 2) := by decide +kernel
theorem dL_acts_170 : decode cL_acts 170 = .ok (.aload_n 1, 1) := by decide +kernel
theorem dL_acts_171 : decode cL_acts 171 = .ok (.invokestatic 62, 3) := by decide +kernel
theorem dL_acts_174 : decode cL_acts 174 = .ok (.bipush 40, 2) := by decide +kernel
theorem dL_acts_176 : decode cL_acts 176 = .ok (.irem, 1) := by decide +kernel
theorem dL_acts_177 : decode cL_acts 177 = .ok (.invokevirtual 113, 3) := by decide +kernel
theorem dL_acts_180 : decode cL_acts 180 = .ok (.istore 5, 2) := by decide +kernel
theorem dL_acts_182 : decode cL_acts 182 = .ok (.goto 221, 3) := by decide +kernel
theorem dL_acts_185 : decode cL_acts 185 = .ok (.aload_n 0, 1) := by decide +kernel
theorem dL_acts_186 : decode cL_acts 186 = .ok (.iload 4, 2) := by decide +kernel
theorem dL_acts_188 : decode cL_acts 188 = .ok (.invokevirtual 116, 3) := by decide +kernel
theorem dL_acts_191 : decode cL_acts 191 = .ok (.istore 5, 2) := by decide +kernel
theorem dL_acts_193 : decode cL_acts 193 = .ok (.iload 5, 2) := by decide +kernel
theorem dL_acts_195 : decode cL_acts 195 = .ok (.ifCond .lt 7, 3) := by decide +kernel
theorem dL_acts_198 : decode cL_acts 198 = .ok (.iconst 1, 1) := by decide +kernel
theorem dL_acts_199 : decode cL_acts 199 = .ok (.goto 4, 3) := by decide +kernel
theorem dL_acts_202 : decode cL_acts 202 = .ok (.iconst 0, 1) := by decide +kernel
theorem dL_acts_203 : decode cL_acts 203 = .ok (.ireturn, 1) := by decide +kernel
theorem dL_acts_204 : decode cL_acts 204 = .ok (.aload_n 0, 1) := by decide +kernel
theorem dL_acts_205 : decode cL_acts 205 = .ok (.iload_n 2, 1) := by decide +kernel
theorem dL_acts_206 : decode cL_acts 206 = .ok (.aload_n 1, 1) := by decide +kernel
theorem dL_acts_207 : decode cL_acts 207 = .ok (.invokestatic 62, 3) := by decide +kernel
theorem dL_acts_210 : decode cL_acts 210 = .ok (.bipush 40, 2) := by decide +kernel
theorem dL_acts_212 : decode cL_acts 212 = .ok (.irem, 1) := by decide +kernel
theorem dL_acts_213 : decode cL_acts 213 = .ok (.invokevirtual 119, 3) := by decide +kernel
theorem dL_acts_216 : decode cL_acts 216 = .ok (.istore 5, 2) := by decide +kernel
theorem dL_acts_218 : decode cL_acts 218 = .ok (.iload 5, 2) := by decide +kernel
theorem dL_acts_220 : decode cL_acts 220 = .ok (.ifCond .lt 7, 3) := by decide +kernel
theorem dL_acts_223 : decode cL_acts 223 = .ok (.iconst 1, 1) := by decide +kernel
theorem dL_acts_224 : decode cL_acts 224 = .ok (.goto 4, 3) := by decide +kernel
theorem dL_acts_227 : decode cL_acts 227 = .ok (.iconst 0, 1) := by decide +kernel
theorem dL_acts_228 : decode cL_acts 228 = .ok (.ireturn, 1) := by decide +kernel
theorem dL_acts_229 : decode cL_acts 229 = .ok (.aload_n 0, 1) := by decide +kernel
theorem dL_acts_230 : decode cL_acts 230 = .ok (.iload_n 2, 1) := by decide +kernel
theorem dL_acts_231 : decode cL_acts 231 = .ok (.invokevirtual 122, 3) := by decide +kernel
theorem dL_acts_234 : decode cL_acts 234 = .ok (.istore 5, 2) := by decide +kernel
theorem dL_acts_236 : decode cL_acts 236 = .ok (.goto 167, 3) := by decide +kernel
theorem dL_acts_239 : decode cL_acts 239 = .ok (.aload_n 0, 1) := by decide +kernel
theorem dL_acts_240 : decode cL_acts 240 = .ok (.bipush 30, 2) := by decide +kernel
theorem dL_acts_242 : decode cL_acts 242 = .ok (.aload_n 1, 1) := by decide +kernel
theorem dL_acts_243 : decode cL_acts 243 = .ok (.invokestatic 62, 3) := by decide +kernel
theorem dL_acts_246 : decode cL_acts 246 = .ok (.bipush 80, 2) := by decide +kernel
theorem dL_acts_248 : decode cL_acts 248 = .ok (.irem, 1) := by decide +kernel
theorem dL_acts_249 : decode cL_acts 249 = .ok (.iadd, 1) := by decide +kernel
theorem dL_acts_250 : decode cL_acts 250 = .ok (.invokevirtual 125, 3) := by decide +kernel
theorem dL_acts_253 : decode cL_acts 253 = .ok (.istore 5, 2) := by decide +kernel
theorem dL_acts_255 : decode cL_acts 255 = .ok (.iload 5, 2) := by decide +kernel
theorem dL_acts_257 : decode cL_acts 257 = .ok (.ifCond .lt 7, 3) := by decide +kernel
theorem dL_acts_260 : decode cL_acts 260 = .ok (.iconst 1, 1) := by decide +kernel
theorem dL_acts_261 : decode cL_acts 261 = .ok (.goto 4, 3) := by decide +kernel
theorem dL_acts_264 : decode cL_acts 264 = .ok (.iconst 0, 1) := by decide +kernel
theorem dL_acts_265 : decode cL_acts 265 = .ok (.ireturn, 1) := by decide +kernel
theorem dL_acts_266 : decode cL_acts 266 = .ok (.aload_n 0, 1) := by decide +kernel
theorem dL_acts_267 : decode cL_acts 267 = .ok (.iload 4, 2) := by decide +kernel
theorem dL_acts_269 : decode cL_acts 269 = .ok (.invokevirtual 128, 3) := by decide +kernel
theorem dL_acts_272 : decode cL_acts 272 = .ok (.istore 5, 2) := by decide +kernel
theorem dL_acts_274 : decode cL_acts 274 = .ok (.iload 5, 2) := by decide +kernel
theorem dL_acts_276 : decode cL_acts 276 = .ok (.ifCond .lt 7, 3) := by decide +kernel
theorem dL_acts_279 : decode cL_acts 279 = .ok (.iconst 1, 1) := by decide +kernel
theorem dL_acts_280 : decode cL_acts 280 = .ok (.goto 4, 3) := by decide +kernel
theorem dL_acts_283 : decode cL_acts 283 = .ok (.iconst 0, 1) := by decide +kernel
theorem dL_acts_284 : decode cL_acts 284 = .ok (.ireturn, 1) := by decide +kernel
theorem dL_acts_285 : decode cL_acts 285 = .ok (.aload_n 0, 1) := by decide +kernel
theorem dL_acts_286 : decode cL_acts 286 = .ok (.invokevirtual 131, 3) := by decide +kernel
theorem dL_acts_289 : decode cL_acts 289 = .ok (.istore 5, 2) := by decide +kernel
theorem dL_acts_291 : decode cL_acts 291 = .ok (.goto 112, 3) := by decide +kernel
theorem dL_acts_294 : decode cL_acts 294 = .ok (.aload_n 0, 1) := by decide +kernel
theorem dL_acts_295 : decode cL_acts 295 = .ok (.invokevirtual 134, 3) := by decide +kernel
theorem dL_acts_298 : decode cL_acts 298 = .ok (.istore 5, 2) := by decide +kernel
theorem dL_acts_300 : decode cL_acts 300 = .ok (.goto 103, 3) := by decide +kernel
theorem dL_acts_303 : decode cL_acts 303 = .ok (.aload_n 1, 1) := by decide +kernel
theorem dL_acts_304 : decode cL_acts 304 = .ok (.invokestatic 62, 3) := by decide +kernel
theorem dL_acts_307 : decode cL_acts 307 = .ok (.iconst 3, 1) := by decide +kernel
theorem dL_acts_308 : decode cL_acts 308 = .ok (.irem, 1) := by decide +kernel
theorem dL_acts_309 : decode cL_acts 309 = .ok (.ifCond .ne 10, 3) := by decide +kernel
theorem dL_acts_312 : decode cL_acts 312 = .ok (.aload_n 0, 1) := by decide +kernel
theorem dL_acts_313 : decode cL_acts 313 = .ok (.invokevirtual 137, 3) := by decide +kernel
theorem dL_acts_316 : decode cL_acts 316 = .ok (.goto 4, 3) := by decide +kernel
theorem dL_acts_319 : decode cL_acts 319 = .ok (.iconst (-1), 1) := by decide +kernel
theorem dL_acts_320 : decode cL_acts 320 = .ok (.istore 5, 2) := by decide +kernel
theorem dL_acts_322 : decode cL_acts 322 = .ok (.goto 81, 3) := by decide +kernel
theorem dL_acts_325 : decode cL_acts 325 = .ok (.aload_n 0, 1) := by decide +kernel
theorem dL_acts_326 : decode cL_acts 326 = .ok (.new 40, 3) := by decide +kernel
theorem dL_acts_329 : decode cL_acts 329 = .ok (.dup, 1) := by decide +kernel
theorem dL_acts_330 : decode cL_acts 330 = .ok (.invokespecial 42, 3) := by decide +kernel
theorem dL_acts_333 : decode cL_acts 333 = .ok (.ldc 140, 2) := by decide +kernel
theorem dL_acts_335 : decode cL_acts 335 = .ok (.invokevirtual 76, 3) := by decide +kernel
theorem dL_acts_338 : decode cL_acts 338 = .ok (.bipush 97, 2) := by decide +kernel
theorem dL_acts_340 : decode cL_acts 340 = .ok (.aload_n 1, 1) := by decide +kernel
theorem dL_acts_341 : decode cL_acts 341 = .ok (.invokestatic 62, 3) := by decide +kernel
theorem dL_acts_344 : decode cL_acts 344 = .ok (.bipush 26, 2) := by decide +kernel
theorem dL_acts_346 : decode cL_acts 346 = .ok (.irem, 1) := by decide +kernel
theorem dL_acts_347 : decode cL_acts 347 = .ok (.iadd, 1) := by decide +kernel
theorem dL_acts_348 : decode cL_acts 348 = .ok (.i2c, 1) := by decide +kernel
theorem dL_acts_349 : decode cL_acts 349 = .ok (.invokevirtual 55, 3) := by decide +kernel
theorem dL_acts_352 : decode cL_acts 352 = .ok (.invokevirtual 58, 3) := by decide +kernel
theorem dL_acts_355 : decode cL_acts 355 = .ok (.invokestatic 28, 3) := by decide +kernel
theorem dL_acts_358 : decode cL_acts 358 = .ok (.aload_n 1, 1) := by decide +kernel
theorem dL_acts_359 : decode cL_acts 359 = .ok (.invokestatic 62, 3) := by decide +kernel
theorem dL_acts_362 : decode cL_acts 362 = .ok (.iconst 2, 1) := by decide +kernel
theorem dL_acts_363 : decode cL_acts 363 = .ok (.irem, 1) := by decide +kernel
theorem dL_acts_364 : decode cL_acts 364 = .ok (.ifCond .ne 10, 3) := by decide +kernel
theorem dL_acts_367 : decode cL_acts 367 = .ok (.aload_n 0, 1) := by decide +kernel
theorem dL_acts_368 : decode cL_acts 368 = .ok (.invokevirtual 142, 3) := by decide +kernel
theorem dL_acts_371 : decode cL_acts 371 = .ok (.goto 8, 3) := by decide +kernel
theorem dL_acts_374 : decode cL_acts 374 = .ok (.aload_n 0, 1) := by decide +kernel
theorem dL_acts_375 : decode cL_acts 375 = .ok (.iload_n 2, 1) := by decide +kernel
theorem dL_acts_376 : decode cL_acts 376 = .ok (.invokevirtual 145, 3) := by decide +kernel
theorem dL_acts_379 : decode cL_acts 379 = .ok (.istore 5, 2) := by decide +kernel
theorem dL_acts_381 : decode cL_acts 381 = .ok (.aload_n 0, 1) := by decide +kernel
theorem dL_acts_382 : decode cL_acts 382 = .ok (.aload_n 0, 1) := by decide +kernel
theorem dL_acts_383 : decode cL_acts 383 = .ok (.iconst 0, 1) := by decide +kernel
theorem dL_acts_384 : decode cL_acts 384 = .ok (.invokevirtual 8, 3) := by decide +kernel
theorem dL_acts_387 : decode cL_acts 387 = .ok (.invokevirtual 8, 3) := by decide +kernel
theorem dL_acts_390 : decode cL_acts 390 = .ok (.istore 6, 2) := by decide +kernel
theorem dL_acts_392 : decode cL_acts 392 = .ok (.iload 5, 2) := by decide +kernel
theorem dL_acts_394 : decode cL_acts 394 = .ok (.ifCond .lt 7, 3) := by decide +kernel
theorem dL_acts_397 : decode cL_acts 397 = .ok (.iconst 1, 1) := by decide +kernel
theorem dL_acts_398 : decode cL_acts 398 = .ok (.goto 4, 3) := by decide +kernel
theorem dL_acts_401 : decode cL_acts 401 = .ok (.iconst 0, 1) := by decide +kernel
theorem dL_acts_402 : decode cL_acts 402 = .ok (.ireturn, 1) := by decide +kernel
theorem dL_acts_403 : decode cL_acts 403 = .ok (.iload 5, 2) := by decide +kernel
theorem dL_acts_405 : decode cL_acts 405 = .ok (.ifCond .lt 7, 3) := by decide +kernel
theorem dL_acts_408 : decode cL_acts 408 = .ok (.iconst 1, 1) := by decide +kernel
theorem dL_acts_409 : decode cL_acts 409 = .ok (.goto 4, 3) := by decide +kernel
theorem dL_acts_412 : decode cL_acts 412 = .ok (.iconst 0, 1) := by decide +kernel
theorem dL_acts_413 : decode cL_acts 413 = .ok (.ireturn, 1) := by decide +kernel
theorem dL_tells_0 : decode cL_tells 0 = .ok (.iconst 0, 1) := by decide +kernel
theorem dL_tells_1 : decode cL_tells 1 = .ok (.istore_n 2, 1) := by decide +kernel
theorem dL_tells_2 : decode cL_tells 2 = .ok (.iconst 0, 1) := by decide +kernel
theorem dL_tells_3 : decode cL_tells 3 = .ok (.istore_n 3, 1) := by decide +kernel
theorem dL_tells_4 : decode cL_tells 4 = .ok (.iload_n 3, 1) := by decide +kernel
theorem dL_tells_5 : decode cL_tells 5 = .ok (.bipush 12, 2) := by decide +kernel
theorem dL_tells_7 : decode cL_tells 7 = .ok (.if_icmp .ge 20, 3) := by decide +kernel
theorem dL_tells_10 : decode cL_tells 10 = .ok (.aload_n 1, 1) := by decide +kernel
theorem dL_tells_11 : decode cL_tells 11 = .ok (.iload_n 2, 1) := by decide +kernel
theorem dL_tells_12 : decode cL_tells 12 = .ok (.aload_n 0, 1) := by decide +kernel
theorem dL_tells_13 : decode cL_tells 13 = .ok (.iload_n 3, 1) := by decide +kernel
theorem dL_tells_14 : decode cL_tells 14 = .ok (.invokevirtual 103, 3) := by decide +kernel
theorem dL_tells_17 : decode cL_tells 17 = .ok (.iastore, 1) := by decide +kernel
theorem dL_tells_18 : decode cL_tells 18 = .ok (.iinc 2 1, 3) := by decide +kernel
theorem dL_tells_21 : decode cL_tells 21 = .ok (.iinc 3 1, 3) := by decide +kernel
theorem dL_tells_24 : decode cL_tells 24 = .ok (.goto (-20), 3) := by decide +kernel
theorem dL_tells_27 : decode cL_tells 27 = .ok (.iconst 0, 1) := by decide +kernel
theorem dL_tells_28 : decode cL_tells 28 = .ok (.istore_n 3, 1) := by decide +kernel
theorem dL_tells_29 : decode cL_tells 29 = .ok (.iload_n 3, 1) := by decide +kernel
theorem dL_tells_30 : decode cL_tells 30 = .ok (.aload_n 0, 1) := by decide +kernel
theorem dL_tells_31 : decode cL_tells 31 = .ok (.iconst 1, 1) := by decide +kernel
theorem dL_tells_32 : decode cL_tells 32 = .ok (.invokevirtual 103, 3) := by decide +kernel
theorem dL_tells_35 : decode cL_tells 35 = .ok (.if_icmp .ge 65, 3) := by decide +kernel
theorem dL_tells_38 : decode cL_tells 38 = .ok (.aload_n 1, 1) := by decide +kernel
theorem dL_tells_39 : decode cL_tells 39 = .ok (.iload_n 2, 1) := by decide +kernel
theorem dL_tells_40 : decode cL_tells 40 = .ok (.aload_n 0, 1) := by decide +kernel
theorem dL_tells_41 : decode cL_tells 41 = .ok (.iload_n 3, 1) := by decide +kernel
theorem dL_tells_42 : decode cL_tells 42 = .ok (.iconst 0, 1) := by decide +kernel
theorem dL_tells_43 : decode cL_tells 43 = .ok (.invokevirtual 148, 3) := by decide +kernel
theorem dL_tells_46 : decode cL_tells 46 = .ok (.iastore, 1) := by decide +kernel
theorem dL_tells_47 : decode cL_tells 47 = .ok (.aload_n 1, 1) := by decide +kernel
theorem dL_tells_48 : decode cL_tells 48 = .ok (.iload_n 2, 1) := by decide +kernel
theorem dL_tells_49 : decode cL_tells 49 = .ok (.iconst 1, 1) := by decide +kernel
theorem dL_tells_50 : decode cL_tells 50 = .ok (.iadd, 1) := by decide +kernel
theorem dL_tells_51 : decode cL_tells 51 = .ok (.aload_n 0, 1) := by decide +kernel
theorem dL_tells_52 : decode cL_tells 52 = .ok (.iload_n 3, 1) := by decide +kernel
theorem dL_tells_53 : decode cL_tells 53 = .ok (.iconst 1, 1) := by decide +kernel
theorem dL_tells_54 : decode cL_tells 54 = .ok (.invokevirtual 148, 3) := by decide +kernel
theorem dL_tells_57 : decode cL_tells 57 = .ok (.iastore, 1) := by decide +kernel
theorem dL_tells_58 : decode cL_tells 58 = .ok (.aload_n 1, 1) := by decide +kernel
theorem dL_tells_59 : decode cL_tells 59 = .ok (.iload_n 2, 1) := by decide +kernel
theorem dL_tells_60 : decode cL_tells 60 = .ok (.iconst 2, 1) := by decide +kernel
theorem dL_tells_61 : decode cL_tells 61 = .ok (.iadd, 1) := by decide +kernel
theorem dL_tells_62 : decode cL_tells 62 = .ok (.aload_n 0, 1) := by decide +kernel
theorem dL_tells_63 : decode cL_tells 63 = .ok (.iload_n 3, 1) := by decide +kernel
theorem dL_tells_64 : decode cL_tells 64 = .ok (.iconst 3, 1) := by decide +kernel
theorem dL_tells_65 : decode cL_tells 65 = .ok (.invokevirtual 148, 3) := by decide +kernel
theorem dL_tells_68 : decode cL_tells 68 = .ok (.iastore, 1) := by decide +kernel
theorem dL_tells_69 : decode cL_tells 69 = .ok (.aload_n 1, 1) := by decide +kernel
theorem dL_tells_70 : decode cL_tells 70 = .ok (.iload_n 2, 1) := by decide +kernel
theorem dL_tells_71 : decode cL_tells 71 = .ok (.iconst 3, 1) := by decide +kernel
theorem dL_tells_72 : decode cL_tells 72 = .ok (.iadd, 1) := by decide +kernel
theorem dL_tells_73 : decode cL_tells 73 = .ok (.aload_n 0, 1) := by decide +kernel
theorem dL_tells_74 : decode cL_tells 74 = .ok (.iload_n 3, 1) := by decide +kernel
theorem dL_tells_75 : decode cL_tells 75 = .ok (.iconst 0, 1) := by decide +kernel
theorem dL_tells_76 : decode cL_tells 76 = .ok (.invokevirtual 151, 3) := by decide +kernel
theorem dL_tells_79 : decode cL_tells 79 = .ok (.iastore, 1) := by decide +kernel
theorem dL_tells_80 : decode cL_tells 80 = .ok (.aload_n 1, 1) := by decide +kernel
theorem dL_tells_81 : decode cL_tells 81 = .ok (.iload_n 2, 1) := by decide +kernel
theorem dL_tells_82 : decode cL_tells 82 = .ok (.iconst 4, 1) := by decide +kernel
theorem dL_tells_83 : decode cL_tells 83 = .ok (.iadd, 1) := by decide +kernel
theorem dL_tells_84 : decode cL_tells 84 = .ok (.aload_n 0, 1) := by decide +kernel
theorem dL_tells_85 : decode cL_tells 85 = .ok (.iload_n 3, 1) := by decide +kernel
theorem dL_tells_86 : decode cL_tells 86 = .ok (.iconst 1, 1) := by decide +kernel
theorem dL_tells_87 : decode cL_tells 87 = .ok (.invokevirtual 151, 3) := by decide +kernel
theorem dL_tells_90 : decode cL_tells 90 = .ok (.iastore, 1) := by decide +kernel
theorem dL_tells_91 : decode cL_tells 91 = .ok (.iinc 2 5, 3) := by decide +kernel
theorem dL_tells_94 : decode cL_tells 94 = .ok (.iinc 3 1, 3) := by decide +kernel
theorem dL_tells_97 : decode cL_tells 97 = .ok (.goto (-68), 3) := by decide +kernel
theorem dL_tells_100 : decode cL_tells 100 = .ok (.iconst 0, 1) := by decide +kernel
theorem dL_tells_101 : decode cL_tells 101 = .ok (.istore_n 3, 1) := by decide +kernel
theorem dL_tells_102 : decode cL_tells 102 = .ok (.iload_n 3, 1) := by decide +kernel
theorem dL_tells_103 : decode cL_tells 103 = .ok (.aload_n 0, 1) := by decide +kernel
theorem dL_tells_104 : decode cL_tells 104 = .ok (.iconst 2, 1) := by decide +kernel
theorem dL_tells_105 : decode cL_tells 105 = .ok (.invokevirtual 103, 3) := by decide +kernel
theorem dL_tells_108 : decode cL_tells 108 = .ok (.if_icmp .ge 37, 3) := by decide +kernel
theorem dL_tells_111 : decode cL_tells 111 = .ok (.iconst 0, 1) := by decide +kernel
theorem dL_tells_112 : decode cL_tells 112 = .ok (.istore 4, 2) := by decide +kernel
theorem dL_tells_114 : decode cL_tells 114 = .ok (.iload 4, 2) := by decide +kernel
theorem dL_tells_116 : decode cL_tells 116 = .ok (.iconst 5, 1) := by decide +kernel
theorem dL_tells_117 : decode cL_tells 117 = .ok (.if_icmp .ge 22, 3) := by decide +kernel
end
section
theorem dL_tells_120 : decode cL_tells 120 = .ok (.aload_n 1, 1) := by decide +kernel
theorem dL_tells_121 : decode cL_tells 121 = .ok (.iload_n 2, 1) := by decide +kernel
theorem dL_tells_122 : decode cL_tells 122 = .ok (.aload_n 0, 1) := by decide +kernel
theorem dL_tells_123 : decode cL_tells 123 = .ok (.iload_n 3, 1) := by decide +kernel
theorem dL_tells_124 : decode cL_tells 124 = .ok (.iload 4, 2) := by decide +kernel
theorem dL_tells_126 : decode cL_tells 126 = .ok (.invokevirtual 154, 3) := by decide +kernel
theorem dL_tells_129 : decode cL_tells 129 = .ok (.iastore, 1) := by decide +kernel
theorem dL_tells_130 : decode cL_tells 130 = .ok (.iinc 2 1, 3) := by decide +kernel
theorem dL_tells_133 : decode cL_tells 133 = .ok (.iinc 4 1, 3) := by decide +kernel
theorem dL_tells_136 : decode cL_tells 136 = .ok (.goto (-22), 3) := by decide +kernel
theorem dL_tells_139 : decode cL_tells 139 = .ok (.iinc 3 1, 3) := by decide +kernel
theorem dL_tells_142 : decode cL_tells 142 = .ok (.goto (-40), 3) := by decide +kernel
theorem dL_tells_145 : decode cL_tells 145 = .ok (.iconst 0, 1) := by decide +kernel
theorem dL_tells_146 : decode cL_tells 146 = .ok (.istore_n 3, 1) := by decide +kernel
theorem dL_tells_147 : decode cL_tells 147 = .ok (.iload_n 3, 1) := by decide +kernel
theorem dL_tells_148 : decode cL_tells 148 = .ok (.aload_n 0, 1) := by decide +kernel
theorem dL_tells_149 : decode cL_tells 149 = .ok (.bipush 11, 2) := by decide +kernel
theorem dL_tells_151 : decode cL_tells 151 = .ok (.invokevirtual 103, 3) := by decide +kernel
theorem dL_tells_154 : decode cL_tells 154 = .ok (.if_icmp .ge 43, 3) := by decide +kernel
theorem dL_tells_157 : decode cL_tells 157 = .ok (.aload_n 1, 1) := by decide +kernel
theorem dL_tells_158 : decode cL_tells 158 = .ok (.iload_n 2, 1) := by decide +kernel
theorem dL_tells_159 : decode cL_tells 159 = .ok (.aload_n 0, 1) := by decide +kernel
theorem dL_tells_160 : decode cL_tells 160 = .ok (.iload_n 3, 1) := by decide +kernel
theorem dL_tells_161 : decode cL_tells 161 = .ok (.iconst 0, 1) := by decide +kernel
theorem dL_tells_162 : decode cL_tells 162 = .ok (.invokevirtual 157, 3) := by decide +kernel
theorem dL_tells_165 : decode cL_tells 165 = .ok (.iastore, 1) := by decide +kernel
theorem dL_tells_166 : decode cL_tells 166 = .ok (.aload_n 1, 1) := by decide +kernel
theorem dL_tells_167 : decode cL_tells 167 = .ok (.iload_n 2, 1) := by decide +kernel
theorem dL_tells_168 : decode cL_tells 168 = .ok (.iconst 1, 1) := by decide +kernel
theorem dL_tells_169 : decode cL_tells 169 = .ok (.iadd, 1) := by decide +kernel
theorem dL_tells_170 : decode cL_tells 170 = .ok (.aload_n 0, 1) := by decide +kernel
theorem dL_tells_171 : decode cL_tells 171 = .ok (.iload_n 3, 1) := by decide +kernel
theorem dL_tells_172 : decode cL_tells 172 = .ok (.iconst 1, 1) := by decide +kernel
theorem dL_tells_173 : decode cL_tells 173 = .ok (.invokevirtual 157, 3) := by decide +kernel
theorem dL_tells_176 : decode cL_tells 176 = .ok (.iastore, 1) := by decide +kernel
theorem dL_tells_177 : decode cL_tells 177 = .ok (.aload_n 1, 1) := by decide +kernel
theorem dL_tells_178 : decode cL_tells 178 = .ok (.iload_n 2, 1) := by decide +kernel
theorem dL_tells_179 : decode cL_tells 179 = .ok (.iconst 2, 1) := by decide +kernel
theorem dL_tells_180 : decode cL_tells 180 = .ok (.iadd, 1) := by decide +kernel
theorem dL_tells_181 : decode cL_tells 181 = .ok (.aload_n 0, 1) := by decide +kernel
theorem dL_tells_182 : decode cL_tells 182 = .ok (.iload_n 3, 1) := by decide +kernel
theorem dL_tells_183 : decode cL_tells 183 = .ok (.iconst 2, 1) := by decide +kernel
theorem dL_tells_184 : decode cL_tells 184 = .ok (.invokevirtual 157, 3) := by decide +kernel
theorem dL_tells_187 : decode cL_tells 187 = .ok (.iastore, 1) := by decide +kernel
theorem dL_tells_188 : decode cL_tells 188 = .ok (.iinc 2 3, 3) := by decide +kernel
theorem dL_tells_191 : decode cL_tells 191 = .ok (.iinc 3 1, 3) := by decide +kernel
theorem dL_tells_194 : decode cL_tells 194 = .ok (.goto (-47), 3) := by decide +kernel
theorem dL_tells_197 : decode cL_tells 197 = .ok (.iload_n 2, 1) := by decide +kernel
theorem dL_tells_198 : decode cL_tells 198 = .ok (.ireturn, 1) := by decide +kernel
theorem dL_isAs_0 : decode cL_isAs 0 = .ok (.aload_n 0, 1) := by decide +kernel
theorem dL_isAs_1 : decode cL_isAs 1 = .ok (.aload_n 3, 1) := by decide +kernel
theorem dL_isAs_2 : decode cL_isAs 2 = .ok (.invokestatic 160, 3) := by decide +kernel
theorem dL_isAs_5 : decode cL_isAs 5 = .ok (.iload_n 2, 1) := by decide +kernel
theorem dL_isAs_6 : decode cL_isAs 6 = .ok (.if_icmp .ne 7, 3) := by decide +kernel
theorem dL_isAs_9 : decode cL_isAs 9 = .ok (.iconst 1, 1) := by decide +kernel
theorem dL_isAs_10 : decode cL_isAs 10 = .ok (.goto 4, 3) := by decide +kernel
theorem dL_isAs_13 : decode cL_isAs 13 = .ok (.iconst 0, 1) := by decide +kernel
theorem dL_isAs_14 : decode cL_isAs 14 = .ok (.istore 4, 2) := by decide +kernel
theorem dL_isAs_16 : decode cL_isAs 16 = .ok (.iconst 0, 1) := by decide +kernel
theorem dL_isAs_17 : decode cL_isAs 17 = .ok (.istore 5, 2) := by decide +kernel
theorem dL_isAs_19 : decode cL_isAs 19 = .ok (.iload 5, 2) := by decide +kernel
theorem dL_isAs_21 : decode cL_isAs 21 = .ok (.iload_n 2, 1) := by decide +kernel
theorem dL_isAs_22 : decode cL_isAs 22 = .ok (.if_icmp .ge 32, 3) := by decide +kernel
theorem dL_isAs_25 : decode cL_isAs 25 = .ok (.iload 4, 2) := by decide +kernel
theorem dL_isAs_27 : decode cL_isAs 27 = .ok (.ifCond .eq 27, 3) := by decide +kernel
theorem dL_isAs_30 : decode cL_isAs 30 = .ok (.aload_n 3, 1) := by decide +kernel
theorem dL_isAs_31 : decode cL_isAs 31 = .ok (.iload 5, 2) := by decide +kernel
theorem dL_isAs_33 : decode cL_isAs 33 = .ok (.iaload, 1) := by decide +kernel
theorem dL_isAs_34 : decode cL_isAs 34 = .ok (.aload_n 1, 1) := by decide +kernel
theorem dL_isAs_35 : decode cL_isAs 35 = .ok (.iload 5, 2) := by decide +kernel
theorem dL_isAs_37 : decode cL_isAs 37 = .ok (.iaload, 1) := by decide +kernel
theorem dL_isAs_38 : decode cL_isAs 38 = .ok (.if_icmp .ne 7, 3) := by decide +kernel
theorem dL_isAs_41 : decode cL_isAs 41 = .ok (.iconst 1, 1) := by decide +kernel
theorem dL_isAs_42 : decode cL_isAs 42 = .ok (.goto 4, 3) := by decide +kernel
theorem dL_isAs_45 : decode cL_isAs 45 = .ok (.iconst 0, 1) := by decide +kernel
theorem dL_isAs_46 : decode cL_isAs 46 = .ok (.istore 4, 2) := by decide +kernel
theorem dL_isAs_48 : decode cL_isAs 48 = .ok (.iinc 5 1, 3) := by decide +kernel
theorem dL_isAs_51 : decode cL_isAs 51 = .ok (.goto (-32), 3) := by decide +kernel
theorem dL_isAs_54 : decode cL_isAs 54 = .ok (.iload 4, 2) := by decide +kernel
theorem dL_isAs_56 : decode cL_isAs 56 = .ok (.ireturn, 1) := by decide +kernel
theorem dL_bear_0 : decode cL_bear 0 = .ok (.iconst 1, 1) := by decide +kernel
theorem dL_bear_1 : decode cL_bear 1 = .ok (.istore_n 2, 1) := by decide +kernel
theorem dL_bear_2 : decode cL_bear 2 = .ok (.iconst 0, 1) := by decide +kernel
theorem dL_bear_3 : decode cL_bear 3 = .ok (.istore_n 3, 1) := by decide +kernel
theorem dL_bear_4 : decode cL_bear 4 = .ok (.iload_n 3, 1) := by decide +kernel
theorem dL_bear_5 : decode cL_bear 5 = .ok (.aload_n 0, 1) := by decide +kernel
theorem dL_bear_6 : decode cL_bear 6 = .ok (.iconst 2, 1) := by decide +kernel
theorem dL_bear_7 : decode cL_bear 7 = .ok (.invokevirtual 103, 3) := by decide +kernel
theorem dL_bear_10 : decode cL_bear 10 = .ok (.if_icmp .ge 87, 3) := by decide +kernel
theorem dL_bear_13 : decode cL_bear 13 = .ok (.iload_n 2, 1) := by decide +kernel
theorem dL_bear_14 : decode cL_bear 14 = .ok (.ifCond .eq 83, 3) := by decide +kernel
theorem dL_bear_17 : decode cL_bear 17 = .ok (.aload_n 0, 1) := by decide +kernel
theorem dL_bear_18 : decode cL_bear 18 = .ok (.aload_n 0, 1) := by decide +kernel
theorem dL_bear_19 : decode cL_bear 19 = .ok (.iload_n 3, 1) := by decide +kernel
theorem dL_bear_20 : decode cL_bear 20 = .ok (.iconst 1, 1) := by decide +kernel
theorem dL_bear_21 : decode cL_bear 21 = .ok (.invokevirtual 154, 3) := by decide +kernel
theorem dL_bear_24 : decode cL_bear 24 = .ok (.iload_n 1, 1) := by decide +kernel
theorem dL_bear_25 : decode cL_bear 25 = .ok (.invokestatic 164, 3) := by decide +kernel
theorem dL_bear_28 : decode cL_bear 28 = .ok (.aload_n 0, 1) := by decide +kernel
theorem dL_bear_29 : decode cL_bear 29 = .ok (.aload_n 0, 1) := by decide +kernel
theorem dL_bear_30 : decode cL_bear 30 = .ok (.iload_n 3, 1) := by decide +kernel
theorem dL_bear_31 : decode cL_bear 31 = .ok (.iconst 0, 1) := by decide +kernel
theorem dL_bear_32 : decode cL_bear 32 = .ok (.invokevirtual 154, 3) := by decide +kernel
theorem dL_bear_35 : decode cL_bear 35 = .ok (.iload_n 1, 1) := by decide +kernel
theorem dL_bear_36 : decode cL_bear 36 = .ok (.invokestatic 164, 3) := by decide +kernel
theorem dL_bear_39 : decode cL_bear 39 = .ok (.isub, 1) := by decide +kernel
theorem dL_bear_40 : decode cL_bear 40 = .ok (.istore 4, 2) := by decide +kernel
theorem dL_bear_42 : decode cL_bear 42 = .ok (.aload_n 0, 1) := by decide +kernel
theorem dL_bear_43 : decode cL_bear 43 = .ok (.iload_n 3, 1) := by decide +kernel
theorem dL_bear_44 : decode cL_bear 44 = .ok (.iconst 4, 1) := by decide +kernel
theorem dL_bear_45 : decode cL_bear 45 = .ok (.invokevirtual 154, 3) := by decide +kernel
theorem dL_bear_48 : decode cL_bear 48 = .ok (.ifCond .eq 37, 3) := by decide +kernel
theorem dL_bear_51 : decode cL_bear 51 = .ok (.aload_n 0, 1) := by decide +kernel
theorem dL_bear_52 : decode cL_bear 52 = .ok (.iload_n 3, 1) := by decide +kernel
theorem dL_bear_53 : decode cL_bear 53 = .ok (.iconst 2, 1) := by decide +kernel
theorem dL_bear_54 : decode cL_bear 54 = .ok (.invokevirtual 154, 3) := by decide +kernel
theorem dL_bear_57 : decode cL_bear 57 = .ok (.ifCond .ne 17, 3) := by decide +kernel
theorem dL_bear_60 : decode cL_bear 60 = .ok (.iload 4, 2) := by decide +kernel
theorem dL_bear_62 : decode cL_bear 62 = .ok (.aload_n 0, 1) := by decide +kernel
theorem dL_bear_63 : decode cL_bear 63 = .ok (.iload_n 3, 1) := by decide +kernel
theorem dL_bear_64 : decode cL_bear 64 = .ok (.iconst 3, 1) := by decide +kernel
theorem dL_bear_65 : decode cL_bear 65 = .ok (.invokevirtual 154, 3) := by decide +kernel
theorem dL_bear_68 : decode cL_bear 68 = .ok (.if_icmp .gt 21, 3) := by decide +kernel
theorem dL_bear_71 : decode cL_bear 71 = .ok (.goto 14, 3) := by decide +kernel
theorem dL_bear_74 : decode cL_bear 74 = .ok (.iload 4, 2) := by decide +kernel
theorem dL_bear_76 : decode cL_bear 76 = .ok (.aload_n 0, 1) := by decide +kernel
theorem dL_bear_77 : decode cL_bear 77 = .ok (.iload_n 3, 1) := by decide +kernel
theorem dL_bear_78 : decode cL_bear 78 = .ok (.iconst 3, 1) := by decide +kernel
theorem dL_bear_79 : decode cL_bear 79 = .ok (.invokevirtual 154, 3) := by decide +kernel
theorem dL_bear_82 : decode cL_bear 82 = .ok (.if_icmp .lt 7, 3) := by decide +kernel
theorem dL_bear_85 : decode cL_bear 85 = .ok (.iconst 1, 1) := by decide +kernel
theorem dL_bear_86 : decode cL_bear 86 = .ok (.goto 4, 3) := by decide +kernel
theorem dL_bear_89 : decode cL_bear 89 = .ok (.iconst 0, 1) := by decide +kernel
theorem dL_bear_90 : decode cL_bear 90 = .ok (.istore_n 2, 1) := by decide +kernel
theorem dL_bear_91 : decode cL_bear 91 = .ok (.iinc 3 1, 3) := by decide +kernel
theorem dL_bear_94 : decode cL_bear 94 = .ok (.goto (-90), 3) := by decide +kernel
theorem dL_bear_97 : decode cL_bear 97 = .ok (.iconst 0, 1) := by decide +kernel
theorem dL_bear_98 : decode cL_bear 98 = .ok (.istore_n 3, 1) := by decide +kernel
theorem dL_bear_99 : decode cL_bear 99 = .ok (.iload_n 3, 1) := by decide +kernel
theorem dL_bear_100 : decode cL_bear 100 = .ok (.aload_n 0, 1) := by decide +kernel
theorem dL_bear_101 : decode cL_bear 101 = .ok (.iconst 1, 1) := by decide +kernel
theorem dL_bear_102 : decode cL_bear 102 = .ok (.invokevirtual 103, 3) := by decide +kernel
theorem dL_bear_105 : decode cL_bear 105 = .ok (.if_icmp .ge 82, 3) := by decide +kernel
theorem dL_bear_108 : decode cL_bear 108 = .ok (.iload_n 2, 1) := by decide +kernel
theorem dL_bear_109 : decode cL_bear 109 = .ok (.ifCond .eq 78, 3) := by decide +kernel
theorem dL_bear_112 : decode cL_bear 112 = .ok (.aload_n 0, 1) := by decide +kernel
theorem dL_bear_113 : decode cL_bear 113 = .ok (.iload_n 3, 1) := by decide +kernel
theorem dL_bear_114 : decode cL_bear 114 = .ok (.iload_n 1, 1) := by decide +kernel
theorem dL_bear_115 : decode cL_bear 115 = .ok (.invokestatic 164, 3) := by decide +kernel
theorem dL_bear_118 : decode cL_bear 118 = .ok (.istore 4, 2) := by decide +kernel
theorem dL_bear_120 : decode cL_bear 120 = .ok (.aload_n 0, 1) := by decide +kernel
theorem dL_bear_121 : decode cL_bear 121 = .ok (.iload_n 3, 1) := by decide +kernel
theorem dL_bear_122 : decode cL_bear 122 = .ok (.iconst 3, 1) := by decide +kernel
theorem dL_bear_123 : decode cL_bear 123 = .ok (.invokevirtual 148, 3) := by decide +kernel
theorem dL_bear_126 : decode cL_bear 126 = .ok (.istore 5, 2) := by decide +kernel
theorem dL_bear_128 : decode cL_bear 128 = .ok (.iload 4, 2) := by decide +kernel
theorem dL_bear_130 : decode cL_bear 130 = .ok (.ifCond .lt 49, 3) := by decide +kernel
theorem dL_bear_133 : decode cL_bear 133 = .ok (.iload 4, 2) := by decide +kernel
theorem dL_bear_135 : decode cL_bear 135 = .ok (.aload_n 0, 1) := by decide +kernel
theorem dL_bear_136 : decode cL_bear 136 = .ok (.iconst 0, 1) := by decide +kernel
theorem dL_bear_137 : decode cL_bear 137 = .ok (.invokevirtual 103, 3) := by decide +kernel
theorem dL_bear_140 : decode cL_bear 140 = .ok (.if_icmp .gt 39, 3) := by decide +kernel
theorem dL_bear_143 : decode cL_bear 143 = .ok (.iload 5, 2) := by decide +kernel
theorem dL_bear_145 : decode cL_bear 145 = .ok (.ifCond .lt 10, 3) := by decide +kernel
theorem dL_bear_148 : decode cL_bear 148 = .ok (.iload 4, 2) := by decide +kernel
theorem dL_bear_150 : decode cL_bear 150 = .ok (.iload 5, 2) := by decide +kernel
theorem dL_bear_152 : decode cL_bear 152 = .ok (.if_icmp .ne 27, 3) := by decide +kernel
theorem dL_bear_155 : decode cL_bear 155 = .ok (.aload_n 0, 1) := by decide +kernel
theorem dL_bear_156 : decode cL_bear 156 = .ok (.iload_n 3, 1) := by decide +kernel
theorem dL_bear_157 : decode cL_bear 157 = .ok (.iload 4, 2) := by decide +kernel
theorem dL_bear_159 : decode cL_bear 159 = .ok (.invokevirtual 168, 3) := by decide +kernel
theorem dL_bear_162 : decode cL_bear 162 = .ok (.iconst 1, 1) := by decide +kernel
theorem dL_bear_163 : decode cL_bear 163 = .ok (.if_icmp .ne 16, 3) := by decide +kernel
theorem dL_bear_166 : decode cL_bear 166 = .ok (.iload_n 3, 1) := by decide +kernel
theorem dL_bear_167 : decode cL_bear 167 = .ok (.ifCond .gt 8, 3) := by decide +kernel
theorem dL_bear_170 : decode cL_bear 170 = .ok (.iload 4, 2) := by decide +kernel
theorem dL_bear_172 : decode cL_bear 172 = .ok (.ifCond .ne 7, 3) := by decide +kernel
theorem dL_bear_175 : decode cL_bear 175 = .ok (.iconst 1, 1) := by decide +kernel
theorem dL_bear_176 : decode cL_bear 176 = .ok (.goto 4, 3) := by decide +kernel
theorem dL_bear_179 : decode cL_bear 179 = .ok (.iconst 0, 1) := by decide +kernel
theorem dL_bear_180 : decode cL_bear 180 = .ok (.istore_n 2, 1) := by decide +kernel
theorem dL_bear_181 : decode cL_bear 181 = .ok (.iinc 3 1, 3) := by decide +kernel
theorem dL_bear_184 : decode cL_bear 184 = .ok (.goto (-85), 3) := by decide +kernel
theorem dL_bear_187 : decode cL_bear 187 = .ok (.iload_n 2, 1) := by decide +kernel
theorem dL_bear_188 : decode cL_bear 188 = .ok (.ireturn, 1) := by decide +kernel
theorem dL_time_0 : decode cL_time 0 = .ok (.iload_n 2, 1) := by decide +kernel
theorem dL_time_1 : decode cL_time 1 = .ok (.iconst 2, 1) := by decide +kernel
theorem dL_time_2 : decode cL_time 2 = .ok (.if_icmp .ge 12, 3) := by decide +kernel
theorem dL_time_5 : decode cL_time 5 = .ok (.aload_n 0, 1) := by decide +kernel
theorem dL_time_6 : decode cL_time 6 = .ok (.iload_n 1, 1) := by decide +kernel
theorem dL_time_7 : decode cL_time 7 = .ok (.iload_n 2, 1) := by decide +kernel
theorem dL_time_8 : decode cL_time 8 = .ok (.invokevirtual 148, 3) := by decide +kernel
theorem dL_time_11 : decode cL_time 11 = .ok (.goto 8, 3) := by decide +kernel
theorem dL_time_14 : decode cL_time 14 = .ok (.aload_n 0, 1) := by decide +kernel
theorem dL_time_15 : decode cL_time 15 = .ok (.iload_n 1, 1) := by decide +kernel
theorem dL_time_16 : decode cL_time 16 = .ok (.invokevirtual 171, 3) := by decide +kernel
theorem dL_time_19 : decode cL_time 19 = .ok (.ireturn, 1) := by decide +kernel
theorem dL_lengthOf_0 : decode cL_lengthOf 0 = .ok (.iload_n 1, 1) := by decide +kernel
theorem dL_lengthOf_1 : decode cL_lengthOf 1 = .ok (.bipush 100, 2) := by decide +kernel
theorem dL_lengthOf_3 : decode cL_lengthOf 3 = .ok (.if_icmp .ge 29, 3) := by decide +kernel
theorem dL_lengthOf_6 : decode cL_lengthOf 6 = .ok (.aload_n 0, 1) := by decide +kernel
theorem dL_lengthOf_7 : decode cL_lengthOf 7 = .ok (.iload_n 1, 1) := by decide +kernel
theorem dL_lengthOf_8 : decode cL_lengthOf 8 = .ok (.iconst 2, 1) := by decide +kernel
theorem dL_lengthOf_9 : decode cL_lengthOf 9 = .ok (.invokevirtual 154, 3) := by decide +kernel
theorem dL_lengthOf_12 : decode cL_lengthOf 12 = .ok (.ifCond .ne 12, 3) := by decide +kernel
theorem dL_lengthOf_15 : decode cL_lengthOf 15 = .ok (.aload_n 0, 1) := by decide +kernel
theorem dL_lengthOf_16 : decode cL_lengthOf 16 = .ok (.iload_n 1, 1) := by decide +kernel
theorem dL_lengthOf_17 : decode cL_lengthOf 17 = .ok (.iconst 3, 1) := by decide +kernel
theorem dL_lengthOf_18 : decode cL_lengthOf 18 = .ok (.invokevirtual 154, 3) := by decide +kernel
theorem dL_lengthOf_21 : decode cL_lengthOf 21 = .ok (.goto 10, 3) := by decide +kernel
theorem dL_lengthOf_24 : decode cL_lengthOf 24 = .ok (.aload_n 0, 1) := by decide +kernel
theorem dL_lengthOf_25 : decode cL_lengthOf 25 = .ok (.iload_n 1, 1) := by decide +kernel
theorem dL_lengthOf_26 : decode cL_lengthOf 26 = .ok (.iconst 3, 1) := by decide +kernel
theorem dL_lengthOf_27 : decode cL_lengthOf 27 = .ok (.invokevirtual 154, 3) := by decide +kernel
theorem dL_lengthOf_30 : decode cL_lengthOf 30 = .ok (.ineg, 1) := by decide +kernel
theorem dL_lengthOf_31 : decode cL_lengthOf 31 = .ok (.ireturn, 1) := by decide +kernel
theorem dL_lengthOf_32 : decode cL_lengthOf 32 = .ok (.iload_n 1, 1) := by decide +kernel
theorem dL_lengthOf_33 : decode cL_lengthOf 33 = .ok (.sipush 200, 3) := by decide +kernel
theorem dL_lengthOf_36 : decode cL_lengthOf 36 = .ok (.if_icmp .ge 11, 3) := by decide +kernel
theorem dL_lengthOf_39 : decode cL_lengthOf 39 = .ok (.aload_n 0, 1) := by decide +kernel
theorem dL_lengthOf_40 : decode cL_lengthOf 40 = .ok (.iconst 0, 1) := by decide +kernel
theorem dL_lengthOf_41 : decode cL_lengthOf 41 = .ok (.invokevirtual 103, 3) := by decide +kernel
theorem dL_lengthOf_44 : decode cL_lengthOf 44 = .ok (.goto 45, 3) := by decide +kernel
theorem dL_lengthOf_47 : decode cL_lengthOf 47 = .ok (.iload_n 1, 1) := by decide +kernel
theorem dL_lengthOf_48 : decode cL_lengthOf 48 = .ok (.sipush 300, 3) := by decide +kernel
theorem dL_lengthOf_51 : decode cL_lengthOf 51 = .ok (.if_icmp .ge 7, 3) := by decide +kernel
theorem dL_lengthOf_54 : decode cL_lengthOf 54 = .ok (.iconst 0, 1) := by decide +kernel
theorem dL_lengthOf_55 : decode cL_lengthOf 55 = .ok (.goto 34, 3) := by decide +kernel
theorem dL_lengthOf_58 : decode cL_lengthOf 58 = .ok (.iload_n 1, 1) := by decide +kernel
theorem dL_lengthOf_59 : decode cL_lengthOf 59 = .ok (.sipush 400, 3) := by decide +kernel
theorem dL_lengthOf_62 : decode cL_lengthOf 62 = .ok (.if_icmp .ge 16, 3) := by decide +kernel
theorem dL_lengthOf_65 : decode cL_lengthOf 65 = .ok (.aload_n 0, 1) := by decide +kernel
theorem dL_lengthOf_66 : decode cL_lengthOf 66 = .ok (.iload_n 1, 1) := by decide +kernel
theorem dL_lengthOf_67 : decode cL_lengthOf 67 = .ok (.sipush 300, 3) := by decide +kernel
theorem dL_lengthOf_70 : decode cL_lengthOf 70 = .ok (.isub, 1) := by decide +kernel
theorem dL_lengthOf_71 : decode cL_lengthOf 71 = .ok (.iconst 3, 1) := by decide +kernel
theorem dL_lengthOf_72 : decode cL_lengthOf 72 = .ok (.invokevirtual 148, 3) := by decide +kernel
theorem dL_lengthOf_75 : decode cL_lengthOf 75 = .ok (.goto 14, 3) := by decide +kernel
theorem dL_lengthOf_78 : decode cL_lengthOf 78 = .ok (.aload_n 0, 1) := by decide +kernel
theorem dL_lengthOf_79 : decode cL_lengthOf 79 = .ok (.iload_n 1, 1) := by decide +kernel
theorem dL_lengthOf_80 : decode cL_lengthOf 80 = .ok (.sipush 400, 3) := by decide +kernel
theorem dL_lengthOf_83 : decode cL_lengthOf 83 = .ok (.isub, 1) := by decide +kernel
theorem dL_lengthOf_84 : decode cL_lengthOf 84 = .ok (.iconst 3, 1) := by decide +kernel
theorem dL_lengthOf_85 : decode cL_lengthOf 85 = .ok (.invokevirtual 148, 3) := by decide +kernel
theorem dL_lengthOf_88 : decode cL_lengthOf 88 = .ok (.ineg, 1) := by decide +kernel
theorem dL_lengthOf_89 : decode cL_lengthOf 89 = .ok (.ireturn, 1) := by decide +kernel
theorem dL_bounds_0 : decode cL_bounds 0 = .ok (.aload_n 0, 1) := by decide +kernel
theorem dL_bounds_1 : decode cL_bounds 1 = .ok (.iconst 1, 1) := by decide +kernel
theorem dL_bounds_2 : decode cL_bounds 2 = .ok (.invokevirtual 103, 3) := by decide +kernel
theorem dL_bounds_5 : decode cL_bounds 5 = .ok (.istore_n 1, 1) := by decide +kernel
theorem dL_bounds_6 : decode cL_bounds 6 = .ok (.iconst 0, 1) := by decide +kernel
theorem dL_bounds_7 : decode cL_bounds 7 = .ok (.istore_n 2, 1) := by decide +kernel
theorem dL_bounds_8 : decode cL_bounds 8 = .ok (.aload_n 0, 1) := by decide +kernel
theorem dL_bounds_9 : decode cL_bounds 9 = .ok (.iconst 0, 1) := by decide +kernel
theorem dL_bounds_10 : decode cL_bounds 10 = .ok (.invokestatic 174, 3) := by decide +kernel
theorem dL_bounds_13 : decode cL_bounds 13 = .ok (.ifCond .eq 15, 3) := by decide +kernel
theorem dL_bounds_16 : decode cL_bounds 16 = .ok (.aload_n 0, 1) := by decide +kernel
theorem dL_bounds_17 : decode cL_bounds 17 = .ok (.iconst 1, 1) := by decide +kernel
theorem dL_bounds_18 : decode cL_bounds 18 = .ok (.invokestatic 174, 3) := by decide +kernel
theorem dL_bounds_21 : decode cL_bounds 21 = .ok (.ifCond .eq 7, 3) := by decide +kernel
theorem dL_bounds_24 : decode cL_bounds 24 = .ok (.iconst 1, 1) := by decide +kernel
theorem dL_bounds_25 : decode cL_bounds 25 = .ok (.goto 4, 3) := by decide +kernel
theorem dL_bounds_28 : decode cL_bounds 28 = .ok (.iconst 0, 1) := by decide +kernel
theorem dL_bounds_29 : decode cL_bounds 29 = .ok (.istore_n 3, 1) := by decide +kernel
theorem dL_bounds_30 : decode cL_bounds 30 = .ok (.iconst 0, 1) := by decide +kernel
theorem dL_bounds_31 : decode cL_bounds 31 = .ok (.istore 4, 2) := by decide +kernel
theorem dL_bounds_33 : decode cL_bounds 33 = .ok (.iload 4, 2) := by decide +kernel
theorem dL_bounds_35 : decode cL_bounds 35 = .ok (.iload_n 1, 1) := by decide +kernel
theorem dL_bounds_36 : decode cL_bounds 36 = .ok (.if_icmp .ge 392, 3) := by decide +kernel
theorem dL_bounds_39 : decode cL_bounds 39 = .ok (.iload_n 3, 1) := by decide +kernel
theorem dL_bounds_40 : decode cL_bounds 40 = .ok (.ifCond .eq 388, 3) := by decide +kernel
theorem dL_bounds_43 : decode cL_bounds 43 = .ok (.iload_n 2, 1) := by decide +kernel
theorem dL_bounds_44 : decode cL_bounds 44 = .ok (.aload_n 0, 1) := by decide +kernel
theorem dL_bounds_45 : decode cL_bounds 45 = .ok (.iload 4, 2) := by decide +kernel
theorem dL_bounds_47 : decode cL_bounds 47 = .ok (.iconst 1, 1) := by decide +kernel
theorem dL_bounds_48 : decode cL_bounds 48 = .ok (.invokevirtual 148, 3) := by decide +kernel
theorem dL_bounds_51 : decode cL_bounds 51 = .ok (.aload_n 0, 1) := by decide +kernel
theorem dL_bounds_52 : decode cL_bounds 52 = .ok (.iload 4, 2) := by decide +kernel
theorem dL_bounds_54 : decode cL_bounds 54 = .ok (.iconst 0, 1) := by decide +kernel
theorem dL_bounds_55 : decode cL_bounds 55 = .ok (.invokevirtual 148, 3) := by decide +kernel
theorem dL_bounds_58 : decode cL_bounds 58 = .ok (.isub, 1) := by decide +kernel
theorem dL_bounds_59 : decode cL_bounds 59 = .ok (.iadd, 1) := by decide +kernel
theorem dL_bounds_60 : decode cL_bounds 60 = .ok (.istore_n 2, 1) := by decide +kernel
theorem dL_bounds_61 : decode cL_bounds 61 = .ok (.aload_n 0, 1) := by decide +kernel
theorem dL_bounds_62 : decode cL_bounds 62 = .ok (.iload 4, 2) := by decide +kernel
theorem dL_bounds_64 : decode cL_bounds 64 = .ok (.iconst 0, 1) := by decide +kernel
theorem dL_bounds_65 : decode cL_bounds 65 = .ok (.invokevirtual 148, 3) := by decide +kernel
theorem dL_bounds_68 : decode cL_bounds 68 = .ok (.aload_n 0, 1) := by decide +kernel
theorem dL_bounds_69 : decode cL_bounds 69 = .ok (.iload 4, 2) := by decide +kernel
theorem dL_bounds_71 : decode cL_bounds 71 = .ok (.iconst 1, 1) := by decide +kernel
theorem dL_bounds_72 : decode cL_bounds 72 = .ok (.invokevirtual 148, 3) := by decide +kernel
theorem dL_bounds_75 : decode cL_bounds 75 = .ok (.if_icmp .gt 81, 3) := by decide +kernel
theorem dL_bounds_78 : decode cL_bounds 78 = .ok (.aload_n 0, 1) := by decide +kernel
theorem dL_bounds_79 : decode cL_bounds 79 = .ok (.iload 4, 2) := by decide +kernel
theorem dL_bounds_81 : decode cL_bounds 81 = .ok (.iconst 2, 1) := by decide +kernel
theorem dL_bounds_82 : decode cL_bounds 82 = .ok (.invokevirtual 148, 3) := by decide +kernel
theorem dL_bounds_85 : decode cL_bounds 85 = .ok (.aload_n 0, 1) := by decide +kernel
theorem dL_bounds_86 : decode cL_bounds 86 = .ok (.iload 4, 2) := by decide +kernel
theorem dL_bounds_88 : decode cL_bounds 88 = .ok (.iconst 1, 1) := by decide +kernel
theorem dL_bounds_89 : decode cL_bounds 89 = .ok (.invokevirtual 148, 3) := by decide +kernel
theorem dL_bounds_92 : decode cL_bounds 92 = .ok (.aload_n 0, 1) := by decide +kernel
theorem dL_bounds_93 : decode cL_bounds 93 = .ok (.iload 4, 2) := by decide +kernel
theorem dL_bounds_95 : decode cL_bounds 95 = .ok (.iconst 0, 1) := by decide +kernel
theorem dL_bounds_96 : decode cL_bounds 96 = .ok (.invokevirtual 148, 3) := by decide +kernel
theorem dL_bounds_99 : decode cL_bounds 99 = .ok (.isub, 1) := by decide +kernel
theorem dL_bounds_100 : decode cL_bounds 100 = .ok (.iconst 1, 1) := by decide +kernel
theorem dL_bounds_101 : decode cL_bounds 101 = .ok (.iadd, 1) := by decide +kernel
theorem dL_bounds_102 : decode cL_bounds 102 = .ok (.if_icmp .ne 54, 3) := by decide +kernel
theorem dL_bounds_105 : decode cL_bounds 105 = .ok (.aload_n 0, 1) := by decide +kernel
theorem dL_bounds_106 : decode cL_bounds 106 = .ok (.iload 4, 2) := by decide +kernel
theorem dL_bounds_108 : decode cL_bounds 108 = .ok (.iload 4, 2) := by decide +kernel
theorem dL_bounds_110 : decode cL_bounds 110 = .ok (.invokevirtual 178, 3) := by decide +kernel
theorem dL_bounds_113 : decode cL_bounds 113 = .ok (.ifCond .ne 43, 3) := by decide +kernel
theorem dL_bounds_116 : decode cL_bounds 116 = .ok (.aload_n 0, 1) := by decide +kernel
theorem dL_bounds_117 : decode cL_bounds 117 = .ok (.iload 4, 2) := by decide +kernel
theorem dL_bounds_119 : decode cL_bounds 119 = .ok (.aload_n 0, 1) := by decide +kernel
theorem dL_bounds_120 : decode cL_bounds 120 = .ok (.iload 4, 2) := by decide +kernel
theorem dL_bounds_122 : decode cL_bounds 122 = .ok (.iconst 1, 1) := by decide +kernel
theorem dL_bounds_123 : decode cL_bounds 123 = .ok (.invokevirtual 148, 3) := by decide +kernel
theorem dL_bounds_126 : decode cL_bounds 126 = .ok (.iconst 1, 1) := by decide +kernel
theorem dL_bounds_127 : decode cL_bounds 127 = .ok (.iadd, 1) := by decide +kernel
theorem dL_bounds_128 : decode cL_bounds 128 = .ok (.invokevirtual 168, 3) := by decide +kernel
theorem dL_bounds_131 : decode cL_bounds 131 = .ok (.ifCond .ne 25, 3) := by decide +kernel
theorem dL_bounds_134 : decode cL_bounds 134 = .ok (.aload_n 0, 1) := by decide +kernel
theorem dL_bounds_135 : decode cL_bounds 135 = .ok (.iload 4, 2) := by decide +kernel
theorem dL_bounds_137 : decode cL_bounds 137 = .ok (.aload_n 0, 1) := by decide +kernel
theorem dL_bounds_138 : decode cL_bounds 138 = .ok (.iload 4, 2) := by decide +kernel
theorem dL_bounds_140 : decode cL_bounds 140 = .ok (.iconst 0, 1) := by decide +kernel
theorem dL_bounds_141 : decode cL_bounds 141 = .ok (.invokevirtual 148, 3) := by decide +kernel
theorem dL_bounds_144 : decode cL_bounds 144 = .ok (.iconst 1, 1) := by decide +kernel
theorem dL_bounds_145 : decode cL_bounds 145 = .ok (.isub, 1) := by decide +kernel
theorem dL_bounds_146 : decode cL_bounds 146 = .ok (.invokevirtual 168, 3) := by decide +kernel
theorem dL_bounds_149 : decode cL_bounds 149 = .ok (.ifCond .ne 7, 3) := by decide +kernel
theorem dL_bounds_152 : decode cL_bounds 152 = .ok (.iconst 1, 1) := by decide +kernel
theorem dL_bounds_153 : decode cL_bounds 153 = .ok (.goto 4, 3) := by decide +kernel
theorem dL_bounds_156 : decode cL_bounds 156 = .ok (.iconst 0, 1) := by decide +kernel
theorem dL_bounds_157 : decode cL_bounds 157 = .ok (.istore_n 3, 1) := by decide +kernel
theorem dL_bounds_158 : decode cL_bounds 158 = .ok (.iconst 0, 1) := by decide +kernel
theorem dL_bounds_159 : decode cL_bounds 159 = .ok (.istore 5, 2) := by decide +kernel
theorem dL_bounds_161 : decode cL_bounds 161 = .ok (.iload 5, 2) := by decide +kernel
theorem dL_bounds_163 : decode cL_bounds 163 = .ok (.iload_n 1, 1) := by decide +kernel
theorem dL_bounds_164 : decode cL_bounds 164 = .ok (.if_icmp .ge 258, 3) := by decide +kernel
theorem dL_bounds_167 : decode cL_bounds 167 = .ok (.iload_n 3, 1) := by decide +kernel
theorem dL_bounds_168 : decode cL_bounds 168 = .ok (.ifCond .eq 254, 3) := by decide +kernel
theorem dL_bounds_171 : decode cL_bounds 171 = .ok (.aload_n 0, 1) := by decide +kernel
theorem dL_bounds_172 : decode cL_bounds 172 = .ok (.iload 4, 2) := by decide +kernel
theorem dL_bounds_174 : decode cL_bounds 174 = .ok (.iload 5, 2) := by decide +kernel
theorem dL_bounds_176 : decode cL_bounds 176 = .ok (.invokevirtual 178, 3) := by decide +kernel
theorem dL_bounds_179 : decode cL_bounds 179 = .ok (.istore 6, 2) := by decide +kernel
theorem dL_bounds_181 : decode cL_bounds 181 = .ok (.iload 6, 2) := by decide +kernel
theorem dL_bounds_183 : decode cL_bounds 183 = .ok (.aload_n 0, 1) := by decide +kernel
theorem dL_bounds_184 : decode cL_bounds 184 = .ok (.iload 5, 2) := by decide +kernel
theorem dL_bounds_186 : decode cL_bounds 186 = .ok (.iload 4, 2) := by decide +kernel
theorem dL_bounds_188 : decode cL_bounds 188 = .ok (.invokevirtual 178, 3) := by decide +kernel
theorem dL_bounds_191 : decode cL_bounds 191 = .ok (.iadd, 1) := by decide +kernel
theorem dL_bounds_192 : decode cL_bounds 192 = .ok (.ifCond .lt 7, 3) := by decide +kernel
theorem dL_bounds_195 : decode cL_bounds 195 = .ok (.iconst 1, 1) := by decide +kernel
theorem dL_bounds_196 : decode cL_bounds 196 = .ok (.goto 4, 3) := by decide +kernel
theorem dL_bounds_199 : decode cL_bounds 199 = .ok (.iconst 0, 1) := by decide +kernel
theorem dL_bounds_200 : decode cL_bounds 200 = .ok (.istore_n 3, 1) := by decide +kernel
theorem dL_bounds_201 : decode cL_bounds 201 = .ok (.iload 4, 2) := by decide +kernel
theorem dL_bounds_203 : decode cL_bounds 203 = .ok (.iload 5, 2) := by decide +kernel
theorem dL_bounds_205 : decode cL_bounds 205 = .ok (.if_icmp .eq 164, 3) := by decide +kernel
theorem dL_bounds_208 : decode cL_bounds 208 = .ok (.iload_n 3, 1) := by decide +kernel
theorem dL_bounds_209 : decode cL_bounds 209 = .ok (.ifCond .eq 160, 3) := by decide +kernel
theorem dL_bounds_212 : decode cL_bounds 212 = .ok (.iconst 0, 1) := by decide +kernel
theorem dL_bounds_213 : decode cL_bounds 213 = .ok (.istore 7, 2) := by decide +kernel
theorem dL_bounds_215 : decode cL_bounds 215 = .ok (.aload_n 0, 1) := by decide +kernel
theorem dL_bounds_216 : decode cL_bounds 216 = .ok (.iload 4, 2) := by decide +kernel
theorem dL_bounds_218 : decode cL_bounds 218 = .ok (.iload 5, 2) := by decide +kernel
theorem dL_bounds_220 : decode cL_bounds 220 = .ok (.invokevirtual 181, 3) := by decide +kernel
theorem dL_bounds_223 : decode cL_bounds 223 = .ok (.istore 8, 2) := by decide +kernel
theorem dL_bounds_225 : decode cL_bounds 225 = .ok (.iconst 0, 1) := by decide +kernel
theorem dL_bounds_226 : decode cL_bounds 226 = .ok (.istore 9, 2) := by decide +kernel
theorem dL_bounds_228 : decode cL_bounds 228 = .ok (.iload 9, 2) := by decide +kernel
theorem dL_bounds_230 : decode cL_bounds 230 = .ok (.iload 8, 2) := by decide +kernel
theorem dL_bounds_232 : decode cL_bounds 232 = .ok (.if_icmp .ge 28, 3) := by decide +kernel
theorem dL_bounds_235 : decode cL_bounds 235 = .ok (.iload 7, 2) := by decide +kernel
theorem dL_bounds_237 : decode cL_bounds 237 = .ok (.aload_n 0, 1) := by decide +kernel
theorem dL_bounds_238 : decode cL_bounds 238 = .ok (.aload_n 0, 1) := by decide +kernel
theorem dL_bounds_239 : decode cL_bounds 239 = .ok (.iload 4, 2) := by decide +kernel
theorem dL_bounds_241 : decode cL_bounds 241 = .ok (.iload 5, 2) := by decide +kernel
theorem dL_bounds_243 : decode cL_bounds 243 = .ok (.iload 9, 2) := by decide +kernel
theorem dL_bounds_245 : decode cL_bounds 245 = .ok (.invokevirtual 184, 3) := by decide +kernel
theorem dL_bounds_248 : decode cL_bounds 248 = .ok (.invokestatic 188, 3) := by decide +kernel
theorem dL_bounds_251 : decode cL_bounds 251 = .ok (.iadd, 1) := by decide +kernel
theorem dL_bounds_252 : decode cL_bounds 252 = .ok (.istore 7, 2) := by decide +kernel
theorem dL_bounds_254 : decode cL_bounds 254 = .ok (.iinc 9 1, 3) := by decide +kernel
theorem dL_bounds_257 : decode cL_bounds 257 = .ok (.goto (-29), 3) := by decide +kernel
theorem dL_bounds_260 : decode cL_bounds 260 = .ok (.aload_n 0, 1) := by decide +kernel
theorem dL_bounds_261 : decode cL_bounds 261 = .ok (.iload 4, 2) := by decide +kernel
theorem dL_bounds_263 : decode cL_bounds 263 = .ok (.iload 5, 2) := by decide +kernel
theorem dL_bounds_265 : decode cL_bounds 265 = .ok (.invokevirtual 192, 3) := by decide +kernel
theorem dL_bounds_268 : decode cL_bounds 268 = .ok (.istore 9, 2) := by decide +kernel
theorem dL_bounds_270 : decode cL_bounds 270 = .ok (.aload_n 0, 1) := by decide +kernel
theorem dL_bounds_271 : decode cL_bounds 271 = .ok (.iload 5, 2) := by decide +kernel
theorem dL_bounds_273 : decode cL_bounds 273 = .ok (.iload 4, 2) := by decide +kernel
theorem dL_bounds_275 : decode cL_bounds 275 = .ok (.invokevirtual 192, 3) := by decide +kernel
theorem dL_bounds_278 : decode cL_bounds 278 = .ok (.istore 10, 2) := by decide +kernel
theorem dL_bounds_280 : decode cL_bounds 280 = .ok (.iload 7, 2) := by decide +kernel
theorem dL_bounds_282 : decode cL_bounds 282 = .ok (.iload 6, 2) := by decide +kernel
theorem dL_bounds_284 : decode cL_bounds 284 = .ok (.if_icmp .ne 83, 3) := by decide +kernel
theorem dL_bounds_287 : decode cL_bounds 287 = .ok (.aload_n 0, 1) := by decide +kernel
theorem dL_bounds_288 : decode cL_bounds 288 = .ok (.iload 4, 2) := by decide +kernel
theorem dL_bounds_290 : decode cL_bounds 290 = .ok (.iload 5, 2) := by decide +kernel
theorem dL_bounds_292 : decode cL_bounds 292 = .ok (.iload 8, 2) := by decide +kernel
theorem dL_bounds_294 : decode cL_bounds 294 = .ok (.invokevirtual 184, 3) := by decide +kernel
theorem dL_bounds_297 : decode cL_bounds 297 = .ok (.bipush (-2), 2) := by decide +kernel
theorem dL_bounds_299 : decode cL_bounds 299 = .ok (.if_icmp .ne 68, 3) := by decide +kernel
theorem dL_bounds_302 : decode cL_bounds 302 = .ok (.aload_n 0, 1) := by decide +kernel
theorem dL_bounds_303 : decode cL_bounds 303 = .ok (.iload 4, 2) := by decide +kernel
theorem dL_bounds_305 : decode cL_bounds 305 = .ok (.iload 5, 2) := by decide +kernel
theorem dL_bounds_307 : decode cL_bounds 307 = .ok (.invokevirtual 195, 3) := by decide +kernel
theorem dL_bounds_310 : decode cL_bounds 310 = .ok (.iload 6, 2) := by decide +kernel
theorem dL_bounds_312 : decode cL_bounds 312 = .ok (.aload_n 0, 1) := by decide +kernel
theorem dL_bounds_313 : decode cL_bounds 313 = .ok (.iload 5, 2) := by decide +kernel
theorem dL_bounds_315 : decode cL_bounds 315 = .ok (.iload 4, 2) := by decide +kernel
theorem dL_bounds_317 : decode cL_bounds 317 = .ok (.invokevirtual 178, 3) := by decide +kernel
theorem dL_bounds_320 : decode cL_bounds 320 = .ok (.iadd, 1) := by decide +kernel
theorem dL_bounds_321 : decode cL_bounds 321 = .ok (.if_icmp .ne 46, 3) := by decide +kernel
theorem dL_bounds_324 : decode cL_bounds 324 = .ok (.iload 10, 2) := by decide +kernel
theorem dL_bounds_326 : decode cL_bounds 326 = .ok (.iload 9, 2) := by decide +kernel
theorem dL_bounds_328 : decode cL_bounds 328 = .ok (.ifCond .eq 9, 3) := by decide +kernel
theorem dL_bounds_331 : decode cL_bounds 331 = .ok (.iload 9, 2) := by decide +kernel
theorem dL_bounds_333 : decode cL_bounds 333 = .ok (.iconst 5, 1) := by decide +kernel
theorem dL_bounds_334 : decode cL_bounds 334 = .ok (.if_icmp .ne 8, 3) := by decide +kernel
theorem dL_bounds_337 : decode cL_bounds 337 = .ok (.iload 9, 2) := by decide +kernel
theorem dL_bounds_339 : decode cL_bounds 339 = .ok (.goto 21, 3) := by decide +kernel
theorem dL_bounds_342 : decode cL_bounds 342 = .ok (.iload 9, 2) := by decide +kernel
theorem dL_bounds_344 : decode cL_bounds 344 = .ok (.iconst 3, 1) := by decide +kernel
theorem dL_bounds_345 : decode cL_bounds 345 = .ok (.if_icmp .ge 10, 3) := by decide +kernel
theorem dL_bounds_348 : decode cL_bounds 348 = .ok (.iconst 3, 1) := by decide +kernel
theorem dL_bounds_349 : decode cL_bounds 349 = .ok (.iload 9, 2) := by decide +kernel
theorem dL_bounds_351 : decode cL_bounds 351 = .ok (.isub, 1) := by decide +kernel
theorem dL_bounds_352 : decode cL_bounds 352 = .ok (.goto 8, 3) := by decide +kernel
theorem dL_bounds_355 : decode cL_bounds 355 = .ok (.bipush 7, 2) := by decide +kernel
theorem dL_bounds_357 : decode cL_bounds 357 = .ok (.iload 9, 2) := by decide +kernel
theorem dL_bounds_359 : decode cL_bounds 359 = .ok (.isub, 1) := by decide +kernel
theorem dL_bounds_360 : decode cL_bounds 360 = .ok (.if_icmp .ne 7, 3) := by decide +kernel
theorem dL_bounds_363 : decode cL_bounds 363 = .ok (.iconst 1, 1) := by decide +kernel
theorem dL_bounds_364 : decode cL_bounds 364 = .ok (.goto 4, 3) := by decide +kernel
theorem dL_bounds_367 : decode cL_bounds 367 = .ok (.iconst 0, 1) := by decide +kernel
theorem dL_bounds_368 : decode cL_bounds 368 = .ok (.istore_n 3, 1) := by decide +kernel
theorem dL_bounds_369 : decode cL_bounds 369 = .ok (.iconst 0, 1) := by decide +kernel
theorem dL_bounds_370 : decode cL_bounds 370 = .ok (.istore 7, 2) := by decide +kernel
theorem dL_bounds_372 : decode cL_bounds 372 = .ok (.iload 7, 2) := by decide +kernel
theorem dL_bounds_374 : decode cL_bounds 374 = .ok (.iload_n 1, 1) := by decide +kernel
theorem dL_bounds_375 : decode cL_bounds 375 = .ok (.if_icmp .ge 41, 3) := by decide +kernel
theorem dL_bounds_378 : decode cL_bounds 378 = .ok (.iload_n 3, 1) := by decide +kernel
theorem dL_bounds_379 : decode cL_bounds 379 = .ok (.ifCond .eq 37, 3) := by decide +kernel
theorem dL_bounds_382 : decode cL_bounds 382 = .ok (.iload 6, 2) := by decide +kernel
theorem dL_bounds_384 : decode cL_bounds 384 = .ok (.aload_n 0, 1) := by decide +kernel
theorem dL_bounds_385 : decode cL_bounds 385 = .ok (.iload 4, 2) := by decide +kernel
theorem dL_bounds_387 : decode cL_bounds 387 = .ok (.iload 7, 2) := by decide +kernel
theorem dL_bounds_389 : decode cL_bounds 389 = .ok (.invokevirtual 178, 3) := by decide +kernel
theorem dL_bounds_392 : decode cL_bounds 392 = .ok (.aload_n 0, 1) := by decide +kernel
theorem dL_bounds_393 : decode cL_bounds 393 = .ok (.iload 7, 2) := by decide +kernel
theorem dL_bounds_395 : decode cL_bounds 395 = .ok (.iload 5, 2) := by decide +kernel
theorem dL_bounds_397 : decode cL_bounds 397 = .ok (.invokevirtual 178, 3) := by decide +kernel
theorem dL_bounds_400 : decode cL_bounds 400 = .ok (.iadd, 1) := by decide +kernel
theorem dL_bounds_401 : decode cL_bounds 401 = .ok (.if_icmp .gt 7, 3) := by decide +kernel
theorem dL_bounds_404 : decode cL_bounds 404 = .ok (.iconst 1, 1) := by decide +kernel
theorem dL_bounds_405 : decode cL_bounds 405 = .ok (.goto 4, 3) := by decide +kernel
theorem dL_bounds_408 : decode cL_bounds 408 = .ok (.iconst 0, 1) := by decide +kernel
theorem dL_bounds_409 : decode cL_bounds 409 = .ok (.istore_n 3, 1) := by decide +kernel
theorem dL_bounds_410 : decode cL_bounds 410 = .ok (.iinc 7 1, 3) := by decide +kernel
theorem dL_bounds_413 : decode cL_bounds 413 = .ok (.goto (-41), 3) := by decide +kernel
theorem dL_bounds_416 : decode cL_bounds 416 = .ok (.iinc 5 1, 3) := by decide +kernel
theorem dL_bounds_419 : decode cL_bounds 419 = .ok (.goto (-258), 3) := by decide +kernel
theorem dL_bounds_422 : decode cL_bounds 422 = .ok (.iinc 4 1, 3) := by decide +kernel
theorem dL_bounds_425 : decode cL_bounds 425 = .ok (.goto (-392), 3) := by decide +kernel
theorem dL_bounds_428 : decode cL_bounds 428 = .ok (.iconst 0, 1) := by decide +kernel
theorem dL_bounds_429 : decode cL_bounds 429 = .ok (.istore 4, 2) := by decide +kernel
theorem dL_bounds_431 : decode cL_bounds 431 = .ok (.iload 4, 2) := by decide +kernel
theorem dL_bounds_433 : decode cL_bounds 433 = .ok (.aload_n 0, 1) := by decide +kernel
theorem dL_bounds_434 : decode cL_bounds 434 = .ok (.iconst 2, 1) := by decide +kernel
theorem dL_bounds_435 : decode cL_bounds 435 = .ok (.invokevirtual 103, 3) := by decide +kernel
theorem dL_bounds_438 : decode cL_bounds 438 = .ok (.if_icmp .ge 104, 3) := by decide +kernel
theorem dL_bounds_441 : decode cL_bounds 441 = .ok (.iload_n 3, 1) := by decide +kernel
theorem dL_bounds_442 : decode cL_bounds 442 = .ok (.ifCond .eq 100, 3) := by decide +kernel
theorem dL_bounds_445 : decode cL_bounds 445 = .ok (.aload_n 0, 1) := by decide +kernel
theorem dL_bounds_446 : decode cL_bounds 446 = .ok (.iload 4, 2) := by decide +kernel
theorem dL_bounds_448 : decode cL_bounds 448 = .ok (.bipush 7, 2) := by decide +kernel
theorem dL_bounds_450 : decode cL_bounds 450 = .ok (.invokevirtual 154, 3) := by decide +kernel
theorem dL_bounds_453 : decode cL_bounds 453 = .ok (.istore 5, 2) := by decide +kernel
theorem dL_bounds_455 : decode cL_bounds 455 = .ok (.aload_n 0, 1) := by decide +kernel
theorem dL_bounds_456 : decode cL_bounds 456 = .ok (.iload 4, 2) := by decide +kernel
theorem dL_bounds_458 : decode cL_bounds 458 = .ok (.iconst 4, 1) := by decide +kernel
theorem dL_bounds_459 : decode cL_bounds 459 = .ok (.invokevirtual 154, 3) := by decide +kernel
theorem dL_bounds_462 : decode cL_bounds 462 = .ok (.iconst 1, 1) := by decide +kernel
theorem dL_bounds_463 : decode cL_bounds 463 = .ok (.if_icmp .ne 7, 3) := by decide +kernel
theorem dL_bounds_466 : decode cL_bounds 466 = .ok (.iconst 1, 1) := by decide +kernel
theorem dL_bounds_467 : decode cL_bounds 467 = .ok (.goto 4, 3) := by decide +kernel
theorem dL_bounds_470 : decode cL_bounds 470 = .ok (.iconst 0, 1) := by decide +kernel
theorem dL_bounds_471 : decode cL_bounds 471 = .ok (.istore 6, 2) := by decide +kernel
theorem dL_bounds_473 : decode cL_bounds 473 = .ok (.iload 5, 2) := by decide +kernel
theorem dL_bounds_475 : decode cL_bounds 475 = .ok (.ifCond .lt 59, 3) := by decide +kernel
theorem dL_bounds_478 : decode cL_bounds 478 = .ok (.aload_n 0, 1) := by decide +kernel
theorem dL_bounds_479 : decode cL_bounds 479 = .ok (.iload 4, 2) := by decide +kernel
theorem dL_bounds_481 : decode cL_bounds 481 = .ok (.iconst 5, 1) := by decide +kernel
theorem dL_bounds_482 : decode cL_bounds 482 = .ok (.invokevirtual 154, 3) := by decide +kernel
theorem dL_bounds_485 : decode cL_bounds 485 = .ok (.iconst 1, 1) := by decide +kernel
theorem dL_bounds_486 : decode cL_bounds 486 = .ok (.if_icmp .ne 7, 3) := by decide +kernel
theorem dL_bounds_489 : decode cL_bounds 489 = .ok (.iconst 1, 1) := by decide +kernel
theorem dL_bounds_490 : decode cL_bounds 490 = .ok (.goto 4, 3) := by decide +kernel
theorem dL_bounds_493 : decode cL_bounds 493 = .ok (.iconst 0, 1) := by decide +kernel
theorem dL_bounds_494 : decode cL_bounds 494 = .ok (.iload 6, 2) := by decide +kernel
theorem dL_bounds_496 : decode cL_bounds 496 = .ok (.ifCond .eq 12, 3) := by decide +kernel
theorem dL_bounds_499 : decode cL_bounds 499 = .ok (.iload 5, 2) := by decide +kernel
theorem dL_bounds_501 : decode cL_bounds 501 = .ok (.ifCond .ne 7, 3) := by decide +kernel
theorem dL_bounds_504 : decode cL_bounds 504 = .ok (.iconst 1, 1) := by decide +kernel
theorem dL_bounds_505 : decode cL_bounds 505 = .ok (.goto 4, 3) := by decide +kernel
theorem dL_bounds_508 : decode cL_bounds 508 = .ok (.iconst 0, 1) := by decide +kernel
theorem dL_bounds_509 : decode cL_bounds 509 = .ok (.if_icmp .ne 25, 3) := by decide +kernel
theorem dL_bounds_512 : decode cL_bounds 512 = .ok (.aload_n 0, 1) := by decide +kernel
theorem dL_bounds_513 : decode cL_bounds 513 = .ok (.iload 4, 2) := by decide +kernel
theorem dL_bounds_515 : decode cL_bounds 515 = .ok (.bipush 6, 2) := by decide +kernel
theorem dL_bounds_517 : decode cL_bounds 517 = .ok (.invokevirtual 154, 3) := by decide +kernel
theorem dL_bounds_520 : decode cL_bounds 520 = .ok (.aload_n 0, 1) := by decide +kernel
theorem dL_bounds_521 : decode cL_bounds 521 = .ok (.iload 4, 2) := by decide +kernel
theorem dL_bounds_523 : decode cL_bounds 523 = .ok (.iconst 5, 1) := by decide +kernel
theorem dL_bounds_524 : decode cL_bounds 524 = .ok (.invokevirtual 154, 3) := by decide +kernel
theorem dL_bounds_527 : decode cL_bounds 527 = .ok (.if_icmp .gt 7, 3) := by decide +kernel
theorem dL_bounds_530 : decode cL_bounds 530 = .ok (.iconst 1, 1) := by decide +kernel
theorem dL_bounds_531 : decode cL_bounds 531 = .ok (.goto 4, 3) := by decide +kernel
theorem dL_bounds_534 : decode cL_bounds 534 = .ok (.iconst 0, 1) := by decide +kernel
theorem dL_bounds_535 : decode cL_bounds 535 = .ok (.istore_n 3, 1) := by decide +kernel
theorem dL_bounds_536 : decode cL_bounds 536 = .ok (.iinc 4 1, 3) := by decide +kernel
theorem dL_bounds_539 : decode cL_bounds 539 = .ok (.goto (-108), 3) := by decide +kernel
theorem dL_bounds_542 : decode cL_bounds 542 = .ok (.iload_n 3, 1) := by decide +kernel
theorem dL_bounds_543 : decode cL_bounds 543 = .ok (.ifCond .eq 64, 3) := by decide +kernel
theorem dL_bounds_546 : decode cL_bounds 546 = .ok (.aload_n 0, 1) := by decide +kernel
theorem dL_bounds_547 : decode cL_bounds 547 = .ok (.bipush 10, 2) := by decide +kernel
theorem dL_bounds_549 : decode cL_bounds 549 = .ok (.invokevirtual 103, 3) := by decide +kernel
theorem dL_bounds_552 : decode cL_bounds 552 = .ok (.iload_n 2, 1) := by decide +kernel
theorem dL_bounds_553 : decode cL_bounds 553 = .ok (.if_icmp .ne 54, 3) := by decide +kernel
theorem dL_bounds_556 : decode cL_bounds 556 = .ok (.aload_n 0, 1) := by decide +kernel
theorem dL_bounds_557 : decode cL_bounds 557 = .ok (.invokevirtual 198, 3) := by decide +kernel
theorem dL_bounds_560 : decode cL_bounds 560 = .ok (.iload_n 2, 1) := by decide +kernel
theorem dL_bounds_561 : decode cL_bounds 561 = .ok (.i2d, 1) := by decide +kernel
theorem dL_bounds_562 : decode cL_bounds 562 = .ok (.iload_n 1, 1) := by decide +kernel
theorem dL_bounds_563 : decode cL_bounds 563 = .ok (.i2d, 1) := by decide +kernel
theorem dL_bounds_564 : decode cL_bounds 564 = .ok (.ddiv, 1) := by decide +kernel
theorem dL_bounds_565 : decode cL_bounds 565 = .ok (.dcmp .l, 1) := by decide +kernel
theorem dL_bounds_566 : decode cL_bounds 566 = .ok (.ifCond .ne 41, 3) := by decide +kernel
theorem dL_bounds_569 : decode cL_bounds 569 = .ok (.aload_n 0, 1) := by decide +kernel
theorem dL_bounds_570 : decode cL_bounds 570 = .ok (.invokevirtual 202, 3) := by decide +kernel
theorem dL_bounds_573 : decode cL_bounds 573 = .ok (.aload_n 0, 1) := by decide +kernel
theorem dL_bounds_574 : decode cL_bounds 574 = .ok (.iconst 3, 1) := by decide +kernel
theorem dL_bounds_575 : decode cL_bounds 575 = .ok (.invokevirtual 103, 3) := by decide +kernel
theorem dL_bounds_578 : decode cL_bounds 578 = .ok (.ifCond .ne 7, 3) := by decide +kernel
theorem dL_bounds_581 : decode cL_bounds 581 = .ok (.fconst 0, 1) := by decide +kernel
theorem dL_bounds_582 : decode cL_bounds 582 = .ok (.goto 17, 3) := by decide +kernel
theorem dL_bounds_585 : decode cL_bounds 585 = .ok (.aload_n 0, 1) := by decide +kernel
theorem dL_bounds_586 : decode cL_bounds 586 = .ok (.bipush 6, 2) := by decide +kernel
theorem dL_bounds_588 : decode cL_bounds 588 = .ok (.invokevirtual 103, 3) := by decide +kernel
theorem dL_bounds_591 : decode cL_bounds 591 = .ok (.i2f, 1) := by decide +kernel
theorem dL_bounds_592 : decode cL_bounds 592 = .ok (.aload_n 0, 1) := by decide +kernel
theorem dL_bounds_593 : decode cL_bounds 593 = .ok (.iconst 3, 1) := by decide +kernel
theorem dL_bounds_594 : decode cL_bounds 594 = .ok (.invokevirtual 103, 3) := by decide +kernel
theorem dL_bounds_597 : decode cL_bounds 597 = .ok (.i2f, 1) := by decide +kernel
theorem dL_bounds_598 : decode cL_bounds 598 = .ok (.fdiv, 1) := by decide +kernel
theorem dL_bounds_599 : decode cL_bounds 599 = .ok (.fcmp .l, 1) := by decide +kernel
theorem dL_bounds_600 : decode cL_bounds 600 = .ok (.ifCond .ne 7, 3) := by decide +kernel
theorem dL_bounds_603 : decode cL_bounds 603 = .ok (.iconst 1, 1) := by decide +kernel
theorem dL_bounds_604 : decode cL_bounds 604 = .ok (.goto 4, 3) := by decide +kernel
theorem dL_bounds_607 : decode cL_bounds 607 = .ok (.iconst 0, 1) := by decide +kernel
theorem dL_bounds_608 : decode cL_bounds 608 = .ok (.ireturn, 1) := by decide +kernel
theorem dL_gaps_0 : decode cL_gaps 0 = .ok (.aload_n 1, 1) := by decide +kernel
theorem dL_gaps_1 : decode cL_gaps 1 = .ok (.invokestatic 62, 3) := by decide +kernel
theorem dL_gaps_4 : decode cL_gaps 4 = .ok (.aload_n 0, 1) := by decide +kernel
theorem dL_gaps_5 : decode cL_gaps 5 = .ok (.iconst 1, 1) := by decide +kernel
theorem dL_gaps_6 : decode cL_gaps 6 = .ok (.invokevirtual 103, 3) := by decide +kernel
theorem dL_gaps_9 : decode cL_gaps 9 = .ok (.irem, 1) := by decide +kernel
theorem dL_gaps_10 : decode cL_gaps 10 = .ok (.istore 4, 2) := by decide +kernel
theorem dL_gaps_12 : decode cL_gaps 12 = .ok (.iload 4, 2) := by decide +kernel
theorem dL_gaps_14 : decode cL_gaps 14 = .ok (.iconst 1, 1) := by decide +kernel
theorem dL_gaps_15 : decode cL_gaps 15 = .ok (.iadd, 1) := by decide +kernel
theorem dL_gaps_16 : decode cL_gaps 16 = .ok (.aload_n 1, 1) := by decide +kernel
theorem dL_gaps_17 : decode cL_gaps 17 = .ok (.invokestatic 62, 3) := by decide +kernel
theorem dL_gaps_20 : decode cL_gaps 20 = .ok (.iconst 1, 1) := by decide +kernel
theorem dL_gaps_21 : decode cL_gaps 21 = .ok (.aload_n 0, 1) := by decide +kernel
theorem dL_gaps_22 : decode cL_gaps 22 = .ok (.iconst 1, 1) := by decide +kernel
theorem dL_gaps_23 : decode cL_gaps 23 = .ok (.invokevirtual 103, 3) := by decide +kernel
theorem dL_gaps_26 : decode cL_gaps 26 = .ok (.iconst 1, 1) := by decide +kernel
theorem dL_gaps_27 : decode cL_gaps 27 = .ok (.isub, 1) := by decide +kernel
theorem dL_gaps_28 : decode cL_gaps 28 = .ok (.invokestatic 81, 3) := by decide +kernel
theorem dL_gaps_31 : decode cL_gaps 31 = .ok (.irem, 1) := by decide +kernel
theorem dL_gaps_32 : decode cL_gaps 32 = .ok (.iadd, 1) := by decide +kernel
theorem dL_gaps_33 : decode cL_gaps 33 = .ok (.aload_n 0, 1) := by decide +kernel
theorem dL_gaps_34 : decode cL_gaps 34 = .ok (.iconst 1, 1) := by decide +kernel
theorem dL_gaps_35 : decode cL_gaps 35 = .ok (.invokevirtual 103, 3) := by decide +kernel
theorem dL_gaps_38 : decode cL_gaps 38 = .ok (.irem, 1) := by decide +kernel
theorem dL_gaps_39 : decode cL_gaps 39 = .ok (.istore 5, 2) := by decide +kernel
theorem dL_gaps_41 : decode cL_gaps 41 = .ok (.aload_n 1, 1) := by decide +kernel
theorem dL_gaps_42 : decode cL_gaps 42 = .ok (.invokestatic 62, 3) := by decide +kernel
theorem dL_gaps_45 : decode cL_gaps 45 = .ok (.iconst 2, 1) := by decide +kernel
theorem dL_gaps_46 : decode cL_gaps 46 = .ok (.irem, 1) := by decide +kernel
theorem dL_gaps_47 : decode cL_gaps 47 = .ok (.istore 6, 2) := by decide +kernel
theorem dL_gaps_49 : decode cL_gaps 49 = .ok (.aload_n 1, 1) := by decide +kernel
theorem dL_gaps_50 : decode cL_gaps 50 = .ok (.invokestatic 62, 3) := by decide +kernel
theorem dL_gaps_53 : decode cL_gaps 53 = .ok (.bipush 60, 2) := by decide +kernel
theorem dL_gaps_55 : decode cL_gaps 55 = .ok (.irem, 1) := by decide +kernel
theorem dL_gaps_56 : decode cL_gaps 56 = .ok (.istore 7, 2) := by decide +kernel
theorem dL_gaps_58 : decode cL_gaps 58 = .ok (.iload 4, 2) := by decide +kernel
theorem dL_gaps_60 : decode cL_gaps 60 = .ok (.iload 5, 2) := by decide +kernel
theorem dL_gaps_62 : decode cL_gaps 62 = .ok (.if_icmp .eq 13, 3) := by decide +kernel
theorem dL_gaps_65 : decode cL_gaps 65 = .ok (.aload_n 0, 1) := by decide +kernel
theorem dL_gaps_66 : decode cL_gaps 66 = .ok (.iconst 2, 1) := by decide +kernel
theorem dL_gaps_67 : decode cL_gaps 67 = .ok (.invokevirtual 103, 3) := by decide +kernel
theorem dL_gaps_70 : decode cL_gaps 70 = .ok (.bipush 24, 2) := by decide +kernel
theorem dL_gaps_72 : decode cL_gaps 72 = .ok (.if_icmp .ne 5, 3) := by decide +kernel
theorem dL_gaps_75 : decode cL_gaps 75 = .ok (.iconst 1, 1) := by decide +kernel
theorem dL_gaps_76 : decode cL_gaps 76 = .ok (.ireturn, 1) := by decide +kernel
theorem dL_gaps_77 : decode cL_gaps 77 = .ok (.aload_n 0, 1) := by decide +kernel
theorem dL_gaps_78 : decode cL_gaps 78 = .ok (.aload_n 2, 1) := by decide +kernel
theorem dL_gaps_79 : decode cL_gaps 79 = .ok (.invokestatic 160, 3) := by decide +kernel
theorem dL_gaps_82 : decode cL_gaps 82 = .ok (.istore 8, 2) := by decide +kernel
theorem dL_gaps_84 : decode cL_gaps 84 = .ok (.aload_n 0, 1) := by decide +kernel
theorem dL_gaps_85 : decode cL_gaps 85 = .ok (.iload 4, 2) := by decide +kernel
theorem dL_gaps_87 : decode cL_gaps 87 = .ok (.iload 5, 2) := by decide +kernel
theorem dL_gaps_89 : decode cL_gaps 89 = .ok (.iload 6, 2) := by decide +kernel
theorem dL_gaps_91 : decode cL_gaps 91 = .ok (.iload 7, 2) := by decide +kernel
theorem dL_gaps_93 : decode cL_gaps 93 = .ok (.iconst 0, 1) := by decide +kernel
theorem dL_gaps_94 : decode cL_gaps 94 = .ok (.invokevirtual 206, 3) := by decide +kernel
theorem dL_gaps_97 : decode cL_gaps 97 = .ok (.istore 9, 2) := by decide +kernel
theorem dL_gaps_99 : decode cL_gaps 99 = .ok (.aload_n 0, 1) := by decide +kernel
theorem dL_gaps_100 : decode cL_gaps 100 = .ok (.iload 4, 2) := by decide +kernel
theorem dL_gaps_102 : decode cL_gaps 102 = .ok (.iload 5, 2) := by decide +kernel
theorem dL_gaps_104 : decode cL_gaps 104 = .ok (.iload 6, 2) := by decide +kernel
theorem dL_gaps_106 : decode cL_gaps 106 = .ok (.iload 7, 2) := by decide +kernel
theorem dL_gaps_108 : decode cL_gaps 108 = .ok (.iconst 1, 1) := by decide +kernel
theorem dL_gaps_109 : decode cL_gaps 109 = .ok (.invokevirtual 206, 3) := by decide +kernel
theorem dL_gaps_112 : decode cL_gaps 112 = .ok (.istore 10, 2) := by decide +kernel
theorem dL_gaps_114 : decode cL_gaps 114 = .ok (.aload_n 0, 1) := by decide +kernel
theorem dL_gaps_115 : decode cL_gaps 115 = .ok (.iload 4, 2) := by decide +kernel
theorem dL_gaps_117 : decode cL_gaps 117 = .ok (.iload 5, 2) := by decide +kernel
theorem dL_gaps_119 : decode cL_gaps 119 = .ok (.iload 6, 2) := by decide +kernel
theorem dL_gaps_121 : decode cL_gaps 121 = .ok (.iload 7, 2) := by decide +kernel
theorem dL_gaps_123 : decode cL_gaps 123 = .ok (.iconst 0, 1) := by decide +kernel
theorem dL_gaps_124 : decode cL_gaps 124 = .ok (.invokevirtual 209, 3) := by decide +kernel
theorem dL_gaps_127 : decode cL_gaps 127 = .ok (.istore 11, 2) := by decide +kernel
theorem dL_gaps_129 : decode cL_gaps 129 = .ok (.aload_n 0, 1) := by decide +kernel
theorem dL_gaps_130 : decode cL_gaps 130 = .ok (.iload 4, 2) := by decide +kernel
theorem dL_gaps_132 : decode cL_gaps 132 = .ok (.iload 5, 2) := by decide +kernel
theorem dL_gaps_134 : decode cL_gaps 134 = .ok (.iload 6, 2) := by decide +kernel
theorem dL_gaps_136 : decode cL_gaps 136 = .ok (.iload 7, 2) := by decide +kernel
theorem dL_gaps_138 : decode cL_gaps 138 = .ok (.iconst 1, 1) := by decide +kernel
theorem dL_gaps_139 : decode cL_gaps 139 = .ok (.invokevirtual 209, 3) := by decide +kernel
theorem dL_gaps_142 : decode cL_gaps 142 = .ok (.istore 12, 2) := by decide +kernel
theorem dL_gaps_144 : decode cL_gaps 144 = .ok (.aload_n 0, 1) := by decide +kernel
theorem dL_gaps_145 : decode cL_gaps 145 = .ok (.iload 4, 2) := by decide +kernel
theorem dL_gaps_147 : decode cL_gaps 147 = .ok (.iload 5, 2) := by decide +kernel
theorem dL_gaps_149 : decode cL_gaps 149 = .ok (.iload 6, 2) := by decide +kernel
theorem dL_gaps_151 : decode cL_gaps 151 = .ok (.iload 7, 2) := by decide +kernel
theorem dL_gaps_153 : decode cL_gaps 153 = .ok (.iconst 2, 1) := by decide +kernel
theorem dL_gaps_154 : decode cL_gaps 154 = .ok (.invokevirtual 209, 3) := by decide +kernel
theorem dL_gaps_157 : decode cL_gaps 157 = .ok (.istore 13, 2) := by decide +kernel
theorem dL_gaps_159 : decode cL_gaps 159 = .ok (.aload_n 0, 1) := by decide +kernel
theorem dL_gaps_160 : decode cL_gaps 160 = .ok (.iload 4, 2) := by decide +kernel
theorem dL_gaps_162 : decode cL_gaps 162 = .ok (.iload 5, 2) := by decide +kernel
theorem dL_gaps_164 : decode cL_gaps 164 = .ok (.iload 6, 2) := by decide +kernel
theorem dL_gaps_166 : decode cL_gaps 166 = .ok (.iload 7, 2) := by decide +kernel
theorem dL_gaps_168 : decode cL_gaps 168 = .ok (.invokevirtual 212, 3) := by decide +kernel
theorem dL_gaps_171 : decode cL_gaps 171 = .ok (.istore 14, 2) := by decide +kernel
theorem dL_gaps_173 : decode cL_gaps 173 = .ok (.aload_n 0, 1) := by decide +kernel
theorem dL_gaps_174 : decode cL_gaps 174 = .ok (.iload 4, 2) := by decide +kernel
theorem dL_gaps_176 : decode cL_gaps 176 = .ok (.iload 5, 2) := by decide +kernel
theorem dL_gaps_178 : decode cL_gaps 178 = .ok (.iload 6, 2) := by decide +kernel
theorem dL_gaps_180 : decode cL_gaps 180 = .ok (.invokevirtual 215, 3) := by decide +kernel
theorem dL_gaps_183 : decode cL_gaps 183 = .ok (.istore 15, 2) := by decide +kernel
theorem dL_gaps_185 : decode cL_gaps 185 = .ok (.aload_n 0, 1) := by decide +kernel
theorem dL_gaps_186 : decode cL_gaps 186 = .ok (.aload_n 2, 1) := by decide +kernel
theorem dL_gaps_187 : decode cL_gaps 187 = .ok (.iload 8, 2) := by decide +kernel
theorem dL_gaps_189 : decode cL_gaps 189 = .ok (.aload_n 3, 1) := by decide +kernel
theorem dL_gaps_190 : decode cL_gaps 190 = .ok (.invokestatic 218, 3) := by decide +kernel
theorem dL_gaps_193 : decode cL_gaps 193 = .ok (.ifCond .eq 78, 3) := by decide +kernel
theorem dL_gaps_196 : decode cL_gaps 196 = .ok (.iload 9, 2) := by decide +kernel
theorem dL_gaps_198 : decode cL_gaps 198 = .ok (.ifCond .ne 7, 3) := by decide +kernel
theorem dL_gaps_201 : decode cL_gaps 201 = .ok (.iconst 1, 1) := by decide +kernel
theorem dL_gaps_202 : decode cL_gaps 202 = .ok (.goto 4, 3) := by decide +kernel
theorem dL_gaps_205 : decode cL_gaps 205 = .ok (.iconst 0, 1) := by decide +kernel
theorem dL_gaps_206 : decode cL_gaps 206 = .ok (.iload 10, 2) := by decide +kernel
theorem dL_gaps_208 : decode cL_gaps 208 = .ok (.bipush (-2), 2) := by decide +kernel
theorem dL_gaps_210 : decode cL_gaps 210 = .ok (.if_icmp .ne 7, 3) := by decide +kernel
theorem dL_gaps_213 : decode cL_gaps 213 = .ok (.iconst 1, 1) := by decide +kernel
theorem dL_gaps_214 : decode cL_gaps 214 = .ok (.goto 4, 3) := by decide +kernel
theorem dL_gaps_217 : decode cL_gaps 217 = .ok (.iconst 0, 1) := by decide +kernel
theorem dL_gaps_218 : decode cL_gaps 218 = .ok (.if_icmp .ne 53, 3) := by decide +kernel
theorem dL_gaps_221 : decode cL_gaps 221 = .ok (.iload 9, 2) := by decide +kernel
theorem dL_gaps_223 : decode cL_gaps 223 = .ok (.ifCond .ne 18, 3) := by decide +kernel
theorem dL_gaps_226 : decode cL_gaps 226 = .ok (.iload 11, 2) := by decide +kernel
theorem dL_gaps_228 : decode cL_gaps 228 = .ok (.ifCond .lt 43, 3) := by decide +kernel
theorem dL_gaps_231 : decode cL_gaps 231 = .ok (.iload 11, 2) := by decide +kernel
theorem dL_gaps_233 : decode cL_gaps 233 = .ok (.iload 12, 2) := by decide +kernel
theorem dL_gaps_235 : decode cL_gaps 235 = .ok (.if_icmp .lt 36, 3) := by decide +kernel
theorem dL_gaps_238 : decode cL_gaps 238 = .ok (.goto 29, 3) := by decide +kernel
theorem dL_gaps_241 : decode cL_gaps 241 = .ok (.iload 11, 2) := by decide +kernel
theorem dL_gaps_243 : decode cL_gaps 243 = .ok (.bipush (-5), 2) := by decide +kernel
theorem dL_gaps_245 : decode cL_gaps 245 = .ok (.if_icmp .ne 26, 3) := by decide +kernel
theorem dL_gaps_248 : decode cL_gaps 248 = .ok (.iload 13, 2) := by decide +kernel
theorem dL_gaps_250 : decode cL_gaps 250 = .ok (.bipush (-5), 2) := by decide +kernel
theorem dL_gaps_252 : decode cL_gaps 252 = .ok (.if_icmp .ne 19, 3) := by decide +kernel
theorem dL_gaps_255 : decode cL_gaps 255 = .ok (.iload 12, 2) := by decide +kernel
theorem dL_gaps_257 : decode cL_gaps 257 = .ok (.bipush (-5), 2) := by decide +kernel
theorem dL_gaps_259 : decode cL_gaps 259 = .ok (.if_icmp .ne 12, 3) := by decide +kernel
theorem dL_gaps_262 : decode cL_gaps 262 = .ok (.iload 10, 2) := by decide +kernel
theorem dL_gaps_264 : decode cL_gaps 264 = .ok (.ifCond .le 7, 3) := by decide +kernel
theorem dL_gaps_267 : decode cL_gaps 267 = .ok (.iconst 1, 1) := by decide +kernel
theorem dL_gaps_268 : decode cL_gaps 268 = .ok (.goto 4, 3) := by decide +kernel
theorem dL_gaps_271 : decode cL_gaps 271 = .ok (.iconst 0, 1) := by decide +kernel
theorem dL_gaps_272 : decode cL_gaps 272 = .ok (.istore 16, 2) := by decide +kernel
theorem dL_gaps_274 : decode cL_gaps 274 = .ok (.iload 9, 2) := by decide +kernel
theorem dL_gaps_276 : decode cL_gaps 276 = .ok (.ifCond .le 240, 3) := by decide +kernel
theorem dL_gaps_279 : decode cL_gaps 279 = .ok (.iload 16, 2) := by decide +kernel
theorem dL_gaps_281 : decode cL_gaps 281 = .ok (.ifCond .eq 235, 3) := by decide +kernel
theorem dL_gaps_284 : decode cL_gaps 284 = .ok (.iload 6, 2) := by decide +kernel
theorem dL_gaps_286 : decode cL_gaps 286 = .ok (.ifCond .ne 8, 3) := by decide +kernel
theorem dL_gaps_289 : decode cL_gaps 289 = .ok (.iload 5, 2) := by decide +kernel
theorem dL_gaps_291 : decode cL_gaps 291 = .ok (.goto 5, 3) := by decide +kernel
theorem dL_gaps_294 : decode cL_gaps 294 = .ok (.iload 4, 2) := by decide +kernel
theorem dL_gaps_296 : decode cL_gaps 296 = .ok (.istore 17, 2) := by decide +kernel
theorem dL_gaps_298 : decode cL_gaps 298 = .ok (.iload 6, 2) := by decide +kernel
theorem dL_gaps_300 : decode cL_gaps 300 = .ok (.ifCond .ne 8, 3) := by decide +kernel
theorem dL_gaps_303 : decode cL_gaps 303 = .ok (.iload 4, 2) := by decide +kernel
theorem dL_gaps_305 : decode cL_gaps 305 = .ok (.goto 5, 3) := by decide +kernel
theorem dL_gaps_308 : decode cL_gaps 308 = .ok (.iload 5, 2) := by decide +kernel
theorem dL_gaps_310 : decode cL_gaps 310 = .ok (.istore 18, 2) := by decide +kernel
theorem dL_gaps_312 : decode cL_gaps 312 = .ok (.iload 6, 2) := by decide +kernel
theorem dL_gaps_314 : decode cL_gaps 314 = .ok (.ifCond .ne 8, 3) := by decide +kernel
theorem dL_gaps_317 : decode cL_gaps 317 = .ok (.iload 7, 2) := by decide +kernel
theorem dL_gaps_319 : decode cL_gaps 319 = .ok (.goto 6, 3) := by decide +kernel
theorem dL_gaps_322 : decode cL_gaps 322 = .ok (.iload 7, 2) := by decide +kernel
theorem dL_gaps_324 : decode cL_gaps 324 = .ok (.ineg, 1) := by decide +kernel
theorem dL_gaps_325 : decode cL_gaps 325 = .ok (.istore 19, 2) := by decide +kernel
theorem dL_gaps_327 : decode cL_gaps 327 = .ok (.iconst 0, 1) := by decide +kernel
theorem dL_gaps_328 : decode cL_gaps 328 = .ok (.istore 20, 2) := by decide +kernel
theorem dL_gaps_330 : decode cL_gaps 330 = .ok (.aload_n 0, 1) := by decide +kernel
theorem dL_gaps_331 : decode cL_gaps 331 = .ok (.iload 4, 2) := by decide +kernel
theorem dL_gaps_333 : decode cL_gaps 333 = .ok (.iload 5, 2) := by decide +kernel
theorem dL_gaps_335 : decode cL_gaps 335 = .ok (.iload 6, 2) := by decide +kernel
theorem dL_gaps_337 : decode cL_gaps 337 = .ok (.iload 7, 2) := by decide +kernel
theorem dL_gaps_339 : decode cL_gaps 339 = .ok (.iload 20, 2) := by decide +kernel
theorem dL_gaps_341 : decode cL_gaps 341 = .ok (.invokevirtual 222, 3) := by decide +kernel
theorem dL_gaps_344 : decode cL_gaps 344 = .ok (.ifCond .lt 32, 3) := by decide +kernel
theorem dL_gaps_347 : decode cL_gaps 347 = .ok (.iload 19, 2) := by decide +kernel
theorem dL_gaps_349 : decode cL_gaps 349 = .ok (.aload_n 0, 1) := by decide +kernel
theorem dL_gaps_350 : decode cL_gaps 350 = .ok (.aload_n 0, 1) := by decide +kernel
theorem dL_gaps_351 : decode cL_gaps 351 = .ok (.iload 4, 2) := by decide +kernel
theorem dL_gaps_353 : decode cL_gaps 353 = .ok (.iload 5, 2) := by decide +kernel
theorem dL_gaps_355 : decode cL_gaps 355 = .ok (.iload 6, 2) := by decide +kernel
theorem dL_gaps_357 : decode cL_gaps 357 = .ok (.iload 7, 2) := by decide +kernel
theorem dL_gaps_359 : decode cL_gaps 359 = .ok (.iload 20, 2) := by decide +kernel
theorem dL_gaps_361 : decode cL_gaps 361 = .ok (.invokevirtual 222, 3) := by decide +kernel
theorem dL_gaps_364 : decode cL_gaps 364 = .ok (.invokestatic 188, 3) := by decide +kernel
theorem dL_gaps_367 : decode cL_gaps 367 = .ok (.iadd, 1) := by decide +kernel
theorem dL_gaps_368 : decode cL_gaps 368 = .ok (.istore 19, 2) := by decide +kernel
theorem dL_gaps_370 : decode cL_gaps 370 = .ok (.iinc 20 1, 3) := by decide +kernel
theorem dL_gaps_373 : decode cL_gaps 373 = .ok (.goto (-43), 3) := by decide +kernel
theorem dL_gaps_376 : decode cL_gaps 376 = .ok (.iload 19, 2) := by decide +kernel
theorem dL_gaps_378 : decode cL_gaps 378 = .ok (.iload 10, 2) := by decide +kernel
theorem dL_gaps_380 : decode cL_gaps 380 = .ok (.ineg, 1) := by decide +kernel
theorem dL_gaps_381 : decode cL_gaps 381 = .ok (.if_icmp .ne 83, 3) := by decide +kernel
theorem dL_gaps_384 : decode cL_gaps 384 = .ok (.iload 20, 2) := by decide +kernel
theorem dL_gaps_386 : decode cL_gaps 386 = .ok (.aload_n 0, 1) := by decide +kernel
theorem dL_gaps_387 : decode cL_gaps 387 = .ok (.iload 17, 2) := by decide +kernel
theorem dL_gaps_389 : decode cL_gaps 389 = .ok (.iload 18, 2) := by decide +kernel
theorem dL_gaps_391 : decode cL_gaps 391 = .ok (.invokevirtual 181, 3) := by decide +kernel
theorem dL_gaps_394 : decode cL_gaps 394 = .ok (.if_icmp .ne 70, 3) := by decide +kernel
theorem dL_gaps_397 : decode cL_gaps 397 = .ok (.iload 9, 2) := by decide +kernel
theorem dL_gaps_399 : decode cL_gaps 399 = .ok (.iconst 1, 1) := by decide +kernel
theorem dL_gaps_400 : decode cL_gaps 400 = .ok (.if_icmp .ne 9, 3) := by decide +kernel
theorem dL_gaps_403 : decode cL_gaps 403 = .ok (.iload 20, 2) := by decide +kernel
theorem dL_gaps_405 : decode cL_gaps 405 = .ok (.iconst 1, 1) := by decide +kernel
theorem dL_gaps_406 : decode cL_gaps 406 = .ok (.if_icmp .lt 58, 3) := by decide +kernel
theorem dL_gaps_409 : decode cL_gaps 409 = .ok (.aload_n 0, 1) := by decide +kernel
theorem dL_gaps_410 : decode cL_gaps 410 = .ok (.iload 4, 2) := by decide +kernel
theorem dL_gaps_412 : decode cL_gaps 412 = .ok (.iload 5, 2) := by decide +kernel
theorem dL_gaps_414 : decode cL_gaps 414 = .ok (.iload 6, 2) := by decide +kernel
theorem dL_gaps_416 : decode cL_gaps 416 = .ok (.iload 7, 2) := by decide +kernel
theorem dL_gaps_418 : decode cL_gaps 418 = .ok (.iconst 0, 1) := by decide +kernel
theorem dL_gaps_419 : decode cL_gaps 419 = .ok (.invokevirtual 222, 3) := by decide +kernel
theorem dL_gaps_422 : decode cL_gaps 422 = .ok (.aload_n 0, 1) := by decide +kernel
theorem dL_gaps_423 : decode cL_gaps 423 = .ok (.iload 4, 2) := by decide +kernel
theorem dL_gaps_425 : decode cL_gaps 425 = .ok (.iload 5, 2) := by decide +kernel
theorem dL_gaps_427 : decode cL_gaps 427 = .ok (.iload 6, 2) := by decide +kernel
theorem dL_gaps_429 : decode cL_gaps 429 = .ok (.iload 7, 2) := by decide +kernel
theorem dL_gaps_431 : decode cL_gaps 431 = .ok (.iconst 2, 1) := by decide +kernel
theorem dL_gaps_432 : decode cL_gaps 432 = .ok (.invokevirtual 206, 3) := by decide +kernel
theorem dL_gaps_435 : decode cL_gaps 435 = .ok (.if_icmp .ne 29, 3) := by decide +kernel
theorem dL_gaps_438 : decode cL_gaps 438 = .ok (.iload 6, 2) := by decide +kernel
theorem dL_gaps_440 : decode cL_gaps 440 = .ok (.ifCond .ne 13, 3) := by decide +kernel
theorem dL_gaps_443 : decode cL_gaps 443 = .ok (.iload 15, 2) := by decide +kernel
theorem dL_gaps_445 : decode cL_gaps 445 = .ok (.iload 7, 2) := by decide +kernel
theorem dL_gaps_447 : decode cL_gaps 447 = .ok (.if_icmp .le 17, 3) := by decide +kernel
theorem dL_gaps_450 : decode cL_gaps 450 = .ok (.goto 10, 3) := by decide +kernel
theorem dL_gaps_453 : decode cL_gaps 453 = .ok (.iload 15, 2) := by decide +kernel
theorem dL_gaps_455 : decode cL_gaps 455 = .ok (.iload 7, 2) := by decide +kernel
theorem dL_gaps_457 : decode cL_gaps 457 = .ok (.if_icmp .ge 7, 3) := by decide +kernel
theorem dL_gaps_460 : decode cL_gaps 460 = .ok (.iconst 1, 1) := by decide +kernel
theorem dL_gaps_461 : decode cL_gaps 461 = .ok (.goto 4, 3) := by decide +kernel
theorem dL_gaps_464 : decode cL_gaps 464 = .ok (.iconst 0, 1) := by decide +kernel
theorem dL_gaps_465 : decode cL_gaps 465 = .ok (.istore 16, 2) := by decide +kernel
theorem dL_gaps_467 : decode cL_gaps 467 = .ok (.iload 14, 2) := by decide +kernel
theorem dL_gaps_469 : decode cL_gaps 469 = .ok (.ifCond .lt 47, 3) := by decide +kernel
theorem dL_gaps_472 : decode cL_gaps 472 = .ok (.iload 16, 2) := by decide +kernel
theorem dL_gaps_474 : decode cL_gaps 474 = .ok (.ifCond .eq 42, 3) := by decide +kernel
theorem dL_gaps_477 : decode cL_gaps 477 = .ok (.aload_n 0, 1) := by decide +kernel
theorem dL_gaps_478 : decode cL_gaps 478 = .ok (.iload 14, 2) := by decide +kernel
theorem dL_gaps_480 : decode cL_gaps 480 = .ok (.invokevirtual 116, 3) := by decide +kernel
theorem dL_gaps_483 : decode cL_gaps 483 = .ok (.ifCond .ne 30, 3) := by decide +kernel
theorem dL_gaps_486 : decode cL_gaps 486 = .ok (.aload_n 0, 1) := by decide +kernel
theorem dL_gaps_487 : decode cL_gaps 487 = .ok (.iload 4, 2) := by decide +kernel
theorem dL_gaps_489 : decode cL_gaps 489 = .ok (.iload 5, 2) := by decide +kernel
theorem dL_gaps_491 : decode cL_gaps 491 = .ok (.iload 6, 2) := by decide +kernel
theorem dL_gaps_493 : decode cL_gaps 493 = .ok (.iload 7, 2) := by decide +kernel
theorem dL_gaps_495 : decode cL_gaps 495 = .ok (.iconst 0, 1) := by decide +kernel
theorem dL_gaps_496 : decode cL_gaps 496 = .ok (.invokevirtual 206, 3) := by decide +kernel
theorem dL_gaps_499 : decode cL_gaps 499 = .ok (.ifCond .ne 14, 3) := by decide +kernel
theorem dL_gaps_502 : decode cL_gaps 502 = .ok (.aload_n 0, 1) := by decide +kernel
theorem dL_gaps_503 : decode cL_gaps 503 = .ok (.invokevirtual 225, 3) := by decide +kernel
theorem dL_gaps_506 : decode cL_gaps 506 = .ok (.ifCond .lt 7, 3) := by decide +kernel
theorem dL_gaps_509 : decode cL_gaps 509 = .ok (.iconst 1, 1) := by decide +kernel
theorem dL_gaps_510 : decode cL_gaps 510 = .ok (.goto 4, 3) := by decide +kernel
theorem dL_gaps_513 : decode cL_gaps 513 = .ok (.iconst 0, 1) := by decide +kernel
theorem dL_gaps_514 : decode cL_gaps 514 = .ok (.istore 16, 2) := by decide +kernel
theorem dL_gaps_516 : decode cL_gaps 516 = .ok (.aload_n 0, 1) := by decide +kernel
theorem dL_gaps_517 : decode cL_gaps 517 = .ok (.iload 4, 2) := by decide +kernel
theorem dL_gaps_519 : decode cL_gaps 519 = .ok (.iload 5, 2) := by decide +kernel
theorem dL_gaps_521 : decode cL_gaps 521 = .ok (.iload 6, 2) := by decide +kernel
theorem dL_gaps_523 : decode cL_gaps 523 = .ok (.iload 7, 2) := by decide +kernel
theorem dL_gaps_525 : decode cL_gaps 525 = .ok (.invokevirtual 106, 3) := by decide +kernel
theorem dL_gaps_528 : decode cL_gaps 528 = .ok (.istore 17, 2) := by decide +kernel
theorem dL_gaps_530 : decode cL_gaps 530 = .ok (.iload 16, 2) := by decide +kernel
theorem dL_gaps_532 : decode cL_gaps 532 = .ok (.ifCond .eq 95, 3) := by decide +kernel
theorem dL_gaps_535 : decode cL_gaps 535 = .ok (.iload 17, 2) := by decide +kernel
theorem dL_gaps_537 : decode cL_gaps 537 = .ok (.bipush (-5), 2) := by decide +kernel
theorem dL_gaps_539 : decode cL_gaps 539 = .ok (.if_icmp .ne 7, 3) := by decide +kernel
theorem dL_gaps_542 : decode cL_gaps 542 = .ok (.iconst 1, 1) := by decide +kernel
theorem dL_gaps_543 : decode cL_gaps 543 = .ok (.goto 4, 3) := by decide +kernel
theorem dL_gaps_546 : decode cL_gaps 546 = .ok (.iconst 0, 1) := by decide +kernel
theorem dL_gaps_547 : decode cL_gaps 547 = .ok (.iload 9, 2) := by decide +kernel
theorem dL_gaps_549 : decode cL_gaps 549 = .ok (.ifCond .le 7, 3) := by decide +kernel
theorem dL_gaps_552 : decode cL_gaps 552 = .ok (.iconst 1, 1) := by decide +kernel
theorem dL_gaps_553 : decode cL_gaps 553 = .ok (.goto 4, 3) := by decide +kernel
theorem dL_gaps_556 : decode cL_gaps 556 = .ok (.iconst 0, 1) := by decide +kernel
theorem dL_gaps_557 : decode cL_gaps 557 = .ok (.if_icmp .ne 70, 3) := by decide +kernel
theorem dL_gaps_560 : decode cL_gaps 560 = .ok (.iload 17, 2) := by decide +kernel
theorem dL_gaps_562 : decode cL_gaps 562 = .ok (.bipush (-5), 2) := by decide +kernel
theorem dL_gaps_564 : decode cL_gaps 564 = .ok (.if_icmp .eq 41, 3) := by decide +kernel
theorem dL_gaps_567 : decode cL_gaps 567 = .ok (.aload_n 0, 1) := by decide +kernel
theorem dL_gaps_568 : decode cL_gaps 568 = .ok (.bipush 10, 2) := by decide +kernel
theorem dL_gaps_570 : decode cL_gaps 570 = .ok (.invokevirtual 103, 3) := by decide +kernel
theorem dL_gaps_573 : decode cL_gaps 573 = .ok (.iload 13, 2) := by decide +kernel
theorem dL_gaps_575 : decode cL_gaps 575 = .ok (.if_icmp .ne 52, 3) := by decide +kernel
theorem dL_gaps_578 : decode cL_gaps 578 = .ok (.aload_n 0, 1) := by decide +kernel
theorem dL_gaps_579 : decode cL_gaps 579 = .ok (.iload 17, 2) := by decide +kernel
theorem dL_gaps_581 : decode cL_gaps 581 = .ok (.invokevirtual 228, 3) := by decide +kernel
theorem dL_gaps_584 : decode cL_gaps 584 = .ok (.iload 6, 2) := by decide +kernel
theorem dL_gaps_586 : decode cL_gaps 586 = .ok (.ifCond .ne 11, 3) := by decide +kernel
theorem dL_gaps_589 : decode cL_gaps 589 = .ok (.iload 7, 2) := by decide +kernel
theorem dL_gaps_591 : decode cL_gaps 591 = .ok (.iload 15, 2) := by decide +kernel
theorem dL_gaps_593 : decode cL_gaps 593 = .ok (.isub, 1) := by decide +kernel
theorem dL_gaps_594 : decode cL_gaps 594 = .ok (.goto 8, 3) := by decide +kernel
theorem dL_gaps_597 : decode cL_gaps 597 = .ok (.iload 15, 2) := by decide +kernel
theorem dL_gaps_599 : decode cL_gaps 599 = .ok (.iload 7, 2) := by decide +kernel
theorem dL_gaps_601 : decode cL_gaps 601 = .ok (.isub, 1) := by decide +kernel
theorem dL_gaps_602 : decode cL_gaps 602 = .ok (.if_icmp .ne 25, 3) := by decide +kernel
theorem dL_gaps_605 : decode cL_gaps 605 = .ok (.aload_n 0, 1) := by decide +kernel
theorem dL_gaps_606 : decode cL_gaps 606 = .ok (.invokevirtual 225, 3) := by decide +kernel
theorem dL_gaps_609 : decode cL_gaps 609 = .ok (.ifCond .lt 18, 3) := by decide +kernel
theorem dL_gaps_612 : decode cL_gaps 612 = .ok (.aload_n 0, 1) := by decide +kernel
theorem dL_gaps_613 : decode cL_gaps 613 = .ok (.aload_n 2, 1) := by decide +kernel
theorem dL_gaps_614 : decode cL_gaps 614 = .ok (.iload 8, 2) := by decide +kernel
theorem dL_gaps_616 : decode cL_gaps 616 = .ok (.aload_n 3, 1) := by decide +kernel
theorem dL_gaps_617 : decode cL_gaps 617 = .ok (.invokestatic 218, 3) := by decide +kernel
theorem dL_gaps_620 : decode cL_gaps 620 = .ok (.ifCond .eq 7, 3) := by decide +kernel
theorem dL_gaps_623 : decode cL_gaps 623 = .ok (.iconst 1, 1) := by decide +kernel
theorem dL_gaps_624 : decode cL_gaps 624 = .ok (.goto 4, 3) := by decide +kernel
theorem dL_gaps_627 : decode cL_gaps 627 = .ok (.iconst 0, 1) := by decide +kernel
theorem dL_gaps_628 : decode cL_gaps 628 = .ok (.istore 16, 2) := by decide +kernel
theorem dL_gaps_630 : decode cL_gaps 630 = .ok (.iload 15, 2) := by decide +kernel
theorem dL_gaps_632 : decode cL_gaps 632 = .ok (.ifCond .lt 104, 3) := by decide +kernel
theorem dL_gaps_635 : decode cL_gaps 635 = .ok (.iload 16, 2) := by decide +kernel
theorem dL_gaps_637 : decode cL_gaps 637 = .ok (.ifCond .eq 99, 3) := by decide +kernel
theorem dL_gaps_640 : decode cL_gaps 640 = .ok (.aload_n 0, 1) := by decide +kernel
theorem dL_gaps_641 : decode cL_gaps 641 = .ok (.iload 4, 2) := by decide +kernel
theorem dL_gaps_643 : decode cL_gaps 643 = .ok (.iload 5, 2) := by decide +kernel
theorem dL_gaps_645 : decode cL_gaps 645 = .ok (.iload 6, 2) := by decide +kernel
theorem dL_gaps_647 : decode cL_gaps 647 = .ok (.iload 15, 2) := by decide +kernel
theorem dL_gaps_649 : decode cL_gaps 649 = .ok (.invokevirtual 106, 3) := by decide +kernel
theorem dL_gaps_652 : decode cL_gaps 652 = .ok (.ifCond .lt 14, 3) := by decide +kernel
theorem dL_gaps_655 : decode cL_gaps 655 = .ok (.aload_n 0, 1) := by decide +kernel
theorem dL_gaps_656 : decode cL_gaps 656 = .ok (.invokevirtual 225, 3) := by decide +kernel
theorem dL_gaps_659 : decode cL_gaps 659 = .ok (.ifCond .lt 7, 3) := by decide +kernel
theorem dL_gaps_662 : decode cL_gaps 662 = .ok (.iconst 1, 1) := by decide +kernel
theorem dL_gaps_663 : decode cL_gaps 663 = .ok (.goto 4, 3) := by decide +kernel
theorem dL_gaps_666 : decode cL_gaps 666 = .ok (.iconst 0, 1) := by decide +kernel
theorem dL_gaps_667 : decode cL_gaps 667 = .ok (.istore 16, 2) := by decide +kernel
theorem dL_gaps_669 : decode cL_gaps 669 = .ok (.iload 6, 2) := by decide +kernel
theorem dL_gaps_671 : decode cL_gaps 671 = .ok (.ifCond .ne 10, 3) := by decide +kernel
theorem dL_gaps_674 : decode cL_gaps 674 = .ok (.iload 15, 2) := by decide +kernel
theorem dL_gaps_676 : decode cL_gaps 676 = .ok (.iconst 1, 1) := by decide +kernel
theorem dL_gaps_677 : decode cL_gaps 677 = .ok (.isub, 1) := by decide +kernel
theorem dL_gaps_678 : decode cL_gaps 678 = .ok (.goto 7, 3) := by decide +kernel
theorem dL_gaps_681 : decode cL_gaps 681 = .ok (.iload 15, 2) := by decide +kernel
theorem dL_gaps_683 : decode cL_gaps 683 = .ok (.iconst 1, 1) := by decide +kernel
theorem dL_gaps_684 : decode cL_gaps 684 = .ok (.iadd, 1) := by decide +kernel
theorem dL_gaps_685 : decode cL_gaps 685 = .ok (.istore 18, 2) := by decide +kernel
theorem dL_gaps_687 : decode cL_gaps 687 = .ok (.iload 16, 2) := by decide +kernel
theorem dL_gaps_689 : decode cL_gaps 689 = .ok (.ifCond .eq 44, 3) := by decide +kernel
theorem dL_gaps_692 : decode cL_gaps 692 = .ok (.iload 18, 2) := by decide +kernel
theorem dL_gaps_694 : decode cL_gaps 694 = .ok (.ifCond .lt 35, 3) := by decide +kernel
theorem dL_gaps_697 : decode cL_gaps 697 = .ok (.iload 18, 2) := by decide +kernel
theorem dL_gaps_699 : decode cL_gaps 699 = .ok (.sipush 999, 3) := by decide +kernel
theorem dL_gaps_702 : decode cL_gaps 702 = .ok (.if_icmp .gt 27, 3) := by decide +kernel
theorem dL_gaps_705 : decode cL_gaps 705 = .ok (.aload_n 0, 1) := by decide +kernel
theorem dL_gaps_706 : decode cL_gaps 706 = .ok (.iload 4, 2) := by decide +kernel
theorem dL_gaps_708 : decode cL_gaps 708 = .ok (.iload 5, 2) := by decide +kernel
theorem dL_gaps_710 : decode cL_gaps 710 = .ok (.iload 6, 2) := by decide +kernel
theorem dL_gaps_712 : decode cL_gaps 712 = .ok (.iload 18, 2) := by decide +kernel
theorem dL_gaps_714 : decode cL_gaps 714 = .ok (.invokevirtual 106, 3) := by decide +kernel
theorem dL_gaps_717 : decode cL_gaps 717 = .ok (.bipush (-5), 2) := by decide +kernel
theorem dL_gaps_719 : decode cL_gaps 719 = .ok (.if_icmp .ne 14, 3) := by decide +kernel
theorem dL_gaps_722 : decode cL_gaps 722 = .ok (.aload_n 0, 1) := by decide +kernel
theorem dL_gaps_723 : decode cL_gaps 723 = .ok (.invokevirtual 225, 3) := by decide +kernel
theorem dL_gaps_726 : decode cL_gaps 726 = .ok (.ifCond .lt 7, 3) := by decide +kernel
theorem dL_gaps_729 : decode cL_gaps 729 = .ok (.iconst 1, 1) := by decide +kernel
theorem dL_gaps_730 : decode cL_gaps 730 = .ok (.goto 4, 3) := by decide +kernel
theorem dL_gaps_733 : decode cL_gaps 733 = .ok (.iconst 0, 1) := by decide +kernel
theorem dL_gaps_734 : decode cL_gaps 734 = .ok (.istore 16, 2) := by decide +kernel
theorem dL_gaps_736 : decode cL_gaps 736 = .ok (.iload 16, 2) := by decide +kernel
theorem dL_gaps_738 : decode cL_gaps 738 = .ok (.ifCond .eq 18, 3) := by decide +kernel
theorem dL_gaps_741 : decode cL_gaps 741 = .ok (.aload_n 0, 1) := by decide +kernel
theorem dL_gaps_742 : decode cL_gaps 742 = .ok (.aload_n 2, 1) := by decide +kernel
theorem dL_gaps_743 : decode cL_gaps 743 = .ok (.iload 8, 2) := by decide +kernel
theorem dL_gaps_745 : decode cL_gaps 745 = .ok (.aload_n 3, 1) := by decide +kernel
theorem dL_gaps_746 : decode cL_gaps 746 = .ok (.invokestatic 218, 3) := by decide +kernel
theorem dL_gaps_749 : decode cL_gaps 749 = .ok (.ifCond .eq 7, 3) := by decide +kernel
theorem dL_gaps_752 : decode cL_gaps 752 = .ok (.iconst 1, 1) := by decide +kernel
theorem dL_gaps_753 : decode cL_gaps 753 = .ok (.goto 4, 3) := by decide +kernel
theorem dL_gaps_756 : decode cL_gaps 756 = .ok (.iconst 0, 1) := by decide +kernel
theorem dL_gaps_757 : decode cL_gaps 757 = .ok (.ireturn, 1) := by decide +kernel
theorem dL_foretold_0 : decode cL_foretold 0 = .ok (.aload_n 0, 1) := by decide +kernel
theorem dL_foretold_1 : decode cL_foretold 1 = .ok (.aload_n 2, 1) := by decide +kernel
theorem dL_foretold_2 : decode cL_foretold 2 = .ok (.invokestatic 160, 3) := by decide +kernel
theorem dL_foretold_5 : decode cL_foretold 5 = .ok (.istore 4, 2) := by decide +kernel
theorem dL_foretold_7 : decode cL_foretold 7 = .ok (.aload_n 0, 1) := by decide +kernel
theorem dL_foretold_8 : decode cL_foretold 8 = .ok (.aload_n 1, 1) := by decide +kernel
theorem dL_foretold_9 : decode cL_foretold 9 = .ok (.aload_n 2, 1) := by decide +kernel
theorem dL_foretold_10 : decode cL_foretold 10 = .ok (.aload_n 3, 1) := by decide +kernel
theorem dL_foretold_11 : decode cL_foretold 11 = .ok (.invokestatic 231, 3) := by decide +kernel
theorem dL_foretold_14 : decode cL_foretold 14 = .ok (.ifCond .eq 15, 3) := by decide +kernel
theorem dL_foretold_17 : decode cL_foretold 17 = .ok (.aload_n 0, 1) := by decide +kernel
theorem dL_foretold_18 : decode cL_foretold 18 = .ok (.iconst 2, 1) := by decide +kernel
theorem dL_foretold_19 : decode cL_foretold 19 = .ok (.invokestatic 174, 3) := by decide +kernel
theorem dL_foretold_22 : decode cL_foretold 22 = .ok (.ifCond .eq 7, 3) := by decide +kernel
theorem dL_foretold_25 : decode cL_foretold 25 = .ok (.iconst 1, 1) := by decide +kernel
theorem dL_foretold_26 : decode cL_foretold 26 = .ok (.goto 4, 3) := by decide +kernel
theorem dL_foretold_29 : decode cL_foretold 29 = .ok (.iconst 0, 1) := by decide +kernel
theorem dL_foretold_30 : decode cL_foretold 30 = .ok (.istore 5, 2) := by decide +kernel
theorem dL_foretold_32 : decode cL_foretold 32 = .ok (.aload_n 0, 1) := by decide +kernel
theorem dL_foretold_33 : decode cL_foretold 33 = .ok (.invokevirtual 235, 3) := by decide +kernel
theorem dL_foretold_36 : decode cL_foretold 36 = .ok (.istore 6, 2) := by decide +kernel
theorem dL_foretold_38 : decode cL_foretold 38 = .ok (.aload_n 0, 1) := by decide +kernel
theorem dL_foretold_39 : decode cL_foretold 39 = .ok (.iload 6, 2) := by decide +kernel
theorem dL_foretold_41 : decode cL_foretold 41 = .ok (.invokevirtual 125, 3) := by decide +kernel
theorem dL_foretold_44 : decode cL_foretold 44 = .ok (.istore 7, 2) := by decide +kernel
theorem dL_foretold_46 : decode cL_foretold 46 = .ok (.iload 5, 2) := by decide +kernel
theorem dL_foretold_48 : decode cL_foretold 48 = .ok (.ifCond .eq 61, 3) := by decide +kernel
theorem dL_foretold_51 : decode cL_foretold 51 = .ok (.iload 7, 2) := by decide +kernel
theorem dL_foretold_53 : decode cL_foretold 53 = .ok (.bipush (-2), 2) := by decide +kernel
theorem dL_foretold_55 : decode cL_foretold 55 = .ok (.if_icmp .eq 8, 3) := by decide +kernel
theorem dL_foretold_58 : decode cL_foretold 58 = .ok (.iload 7, 2) := by decide +kernel
theorem dL_foretold_60 : decode cL_foretold 60 = .ok (.ifCond .lt 49, 3) := by decide +kernel
theorem dL_foretold_63 : decode cL_foretold 63 = .ok (.iload 6, 2) := by decide +kernel
theorem dL_foretold_65 : decode cL_foretold 65 = .ok (.iconst 1, 1) := by decide +kernel
theorem dL_foretold_66 : decode cL_foretold 66 = .ok (.if_icmp .eq 16, 3) := by decide +kernel
theorem dL_foretold_69 : decode cL_foretold 69 = .ok (.aload_n 0, 1) := by decide +kernel
theorem dL_foretold_70 : decode cL_foretold 70 = .ok (.iload 6, 2) := by decide +kernel
theorem dL_foretold_72 : decode cL_foretold 72 = .ok (.iconst 1, 1) := by decide +kernel
theorem dL_foretold_73 : decode cL_foretold 73 = .ok (.isub, 1) := by decide +kernel
theorem dL_foretold_74 : decode cL_foretold 74 = .ok (.invokevirtual 125, 3) := by decide +kernel
theorem dL_foretold_77 : decode cL_foretold 77 = .ok (.bipush (-5), 2) := by decide +kernel
theorem dL_foretold_79 : decode cL_foretold 79 = .ok (.if_icmp .ne 30, 3) := by decide +kernel
theorem dL_foretold_82 : decode cL_foretold 82 = .ok (.iload 7, 2) := by decide +kernel
theorem dL_foretold_84 : decode cL_foretold 84 = .ok (.ifCond .lt 10, 3) := by decide +kernel
theorem dL_foretold_87 : decode cL_foretold 87 = .ok (.aload_n 0, 1) := by decide +kernel
theorem dL_foretold_88 : decode cL_foretold 88 = .ok (.invokevirtual 225, 3) := by decide +kernel
theorem dL_foretold_91 : decode cL_foretold 91 = .ok (.ifCond .lt 18, 3) := by decide +kernel
theorem dL_foretold_94 : decode cL_foretold 94 = .ok (.aload_n 0, 1) := by decide +kernel
theorem dL_foretold_95 : decode cL_foretold 95 = .ok (.aload_n 2, 1) := by decide +kernel
theorem dL_foretold_96 : decode cL_foretold 96 = .ok (.iload 4, 2) := by decide +kernel
theorem dL_foretold_98 : decode cL_foretold 98 = .ok (.aload_n 3, 1) := by decide +kernel
theorem dL_foretold_99 : decode cL_foretold 99 = .ok (.invokestatic 218, 3) := by decide +kernel
theorem dL_foretold_102 : decode cL_foretold 102 = .ok (.ifCond .eq 7, 3) := by decide +kernel
theorem dL_foretold_105 : decode cL_foretold 105 = .ok (.iconst 1, 1) := by decide +kernel
theorem dL_foretold_106 : decode cL_foretold 106 = .ok (.goto 4, 3) := by decide +kernel
theorem dL_foretold_109 : decode cL_foretold 109 = .ok (.iconst 0, 1) := by decide +kernel
theorem dL_foretold_110 : decode cL_foretold 110 = .ok (.istore 5, 2) := by decide +kernel
theorem dL_foretold_112 : decode cL_foretold 112 = .ok (.aload_n 1, 1) := by decide +kernel
theorem dL_foretold_113 : decode cL_foretold 113 = .ok (.invokestatic 62, 3) := by decide +kernel
theorem dL_foretold_116 : decode cL_foretold 116 = .ok (.aload_n 0, 1) := by decide +kernel
theorem dL_foretold_117 : decode cL_foretold 117 = .ok (.iconst 1, 1) := by decide +kernel
theorem dL_foretold_118 : decode cL_foretold 118 = .ok (.invokevirtual 103, 3) := by decide +kernel
theorem dL_foretold_121 : decode cL_foretold 121 = .ok (.irem, 1) := by decide +kernel
theorem dL_foretold_122 : decode cL_foretold 122 = .ok (.istore 8, 2) := by decide +kernel
theorem dL_foretold_124 : decode cL_foretold 124 = .ok (.aload_n 1, 1) := by decide +kernel
theorem dL_foretold_125 : decode cL_foretold 125 = .ok (.invokestatic 62, 3) := by decide +kernel
theorem dL_foretold_128 : decode cL_foretold 128 = .ok (.aload_n 0, 1) := by decide +kernel
theorem dL_foretold_129 : decode cL_foretold 129 = .ok (.iconst 0, 1) := by decide +kernel
theorem dL_foretold_130 : decode cL_foretold 130 = .ok (.invokevirtual 103, 3) := by decide +kernel
theorem dL_foretold_133 : decode cL_foretold 133 = .ok (.irem, 1) := by decide +kernel
theorem dL_foretold_134 : decode cL_foretold 134 = .ok (.istore 9, 2) := by decide +kernel
theorem dL_foretold_136 : decode cL_foretold 136 = .ok (.aload_n 0, 1) := by decide +kernel
theorem dL_foretold_137 : decode cL_foretold 137 = .ok (.iload 8, 2) := by decide +kernel
theorem dL_foretold_139 : decode cL_foretold 139 = .ok (.iload 9, 2) := by decide +kernel
theorem dL_foretold_141 : decode cL_foretold 141 = .ok (.iconst 2, 1) := by decide +kernel
theorem dL_foretold_142 : decode cL_foretold 142 = .ok (.invokevirtual 238, 3) := by decide +kernel
theorem dL_foretold_145 : decode cL_foretold 145 = .ok (.istore 10, 2) := by decide +kernel
theorem dL_foretold_147 : decode cL_foretold 147 = .ok (.aload_n 0, 1) := by decide +kernel
theorem dL_foretold_148 : decode cL_foretold 148 = .ok (.iload 8, 2) := by decide +kernel
theorem dL_foretold_150 : decode cL_foretold 150 = .ok (.iload 9, 2) := by decide +kernel
theorem dL_foretold_152 : decode cL_foretold 152 = .ok (.invokevirtual 168, 3) := by decide +kernel
theorem dL_foretold_155 : decode cL_foretold 155 = .ok (.istore 11, 2) := by decide +kernel
theorem dL_foretold_157 : decode cL_foretold 157 = .ok (.aload_n 0, 1) := by decide +kernel
theorem dL_foretold_158 : decode cL_foretold 158 = .ok (.iload 8, 2) := by decide +kernel
theorem dL_foretold_160 : decode cL_foretold 160 = .ok (.iload 9, 2) := by decide +kernel
theorem dL_foretold_162 : decode cL_foretold 162 = .ok (.invokevirtual 119, 3) := by decide +kernel
theorem dL_foretold_165 : decode cL_foretold 165 = .ok (.istore 12, 2) := by decide +kernel
theorem dL_foretold_167 : decode cL_foretold 167 = .ok (.iload 5, 2) := by decide +kernel
theorem dL_foretold_169 : decode cL_foretold 169 = .ok (.ifCond .eq 57, 3) := by decide +kernel
theorem dL_foretold_172 : decode cL_foretold 172 = .ok (.iload 12, 2) := by decide +kernel
theorem dL_foretold_174 : decode cL_foretold 174 = .ok (.ifCond .lt 30, 3) := by decide +kernel
theorem dL_foretold_177 : decode cL_foretold 177 = .ok (.iload 11, 2) := by decide +kernel
theorem dL_foretold_179 : decode cL_foretold 179 = .ok (.iconst 1, 1) := by decide +kernel
theorem dL_foretold_180 : decode cL_foretold 180 = .ok (.if_icmp .ne 46, 3) := by decide +kernel
theorem dL_foretold_183 : decode cL_foretold 183 = .ok (.aload_n 0, 1) := by decide +kernel
theorem dL_foretold_184 : decode cL_foretold 184 = .ok (.bipush 10, 2) := by decide +kernel
theorem dL_foretold_186 : decode cL_foretold 186 = .ok (.invokevirtual 103, 3) := by decide +kernel
theorem dL_foretold_189 : decode cL_foretold 189 = .ok (.iload 10, 2) := by decide +kernel
theorem dL_foretold_191 : decode cL_foretold 191 = .ok (.if_icmp .ne 35, 3) := by decide +kernel
theorem dL_foretold_194 : decode cL_foretold 194 = .ok (.aload_n 0, 1) := by decide +kernel
theorem dL_foretold_195 : decode cL_foretold 195 = .ok (.invokevirtual 225, 3) := by decide +kernel
theorem dL_foretold_198 : decode cL_foretold 198 = .ok (.ifCond .lt 28, 3) := by decide +kernel
theorem dL_foretold_201 : decode cL_foretold 201 = .ok (.goto 10, 3) := by decide +kernel
theorem dL_foretold_204 : decode cL_foretold 204 = .ok (.iload 12, 2) := by decide +kernel
theorem dL_foretold_206 : decode cL_foretold 206 = .ok (.iload 10, 2) := by decide +kernel
theorem dL_foretold_208 : decode cL_foretold 208 = .ok (.if_icmp .ne 18, 3) := by decide +kernel
theorem dL_foretold_211 : decode cL_foretold 211 = .ok (.aload_n 0, 1) := by decide +kernel
theorem dL_foretold_212 : decode cL_foretold 212 = .ok (.aload_n 2, 1) := by decide +kernel
theorem dL_foretold_213 : decode cL_foretold 213 = .ok (.iload 4, 2) := by decide +kernel
theorem dL_foretold_215 : decode cL_foretold 215 = .ok (.aload_n 3, 1) := by decide +kernel
theorem dL_foretold_216 : decode cL_foretold 216 = .ok (.invokestatic 218, 3) := by decide +kernel
theorem dL_foretold_219 : decode cL_foretold 219 = .ok (.ifCond .eq 7, 3) := by decide +kernel
theorem dL_foretold_222 : decode cL_foretold 222 = .ok (.iconst 1, 1) := by decide +kernel
theorem dL_foretold_223 : decode cL_foretold 223 = .ok (.goto 4, 3) := by decide +kernel
theorem dL_foretold_226 : decode cL_foretold 226 = .ok (.iconst 0, 1) := by decide +kernel
theorem dL_foretold_227 : decode cL_foretold 227 = .ok (.istore 5, 2) := by decide +kernel
theorem dL_foretold_229 : decode cL_foretold 229 = .ok (.aload_n 0, 1) := by decide +kernel
theorem dL_foretold_230 : decode cL_foretold 230 = .ok (.iconst 2, 1) := by decide +kernel
theorem dL_foretold_231 : decode cL_foretold 231 = .ok (.invokevirtual 103, 3) := by decide +kernel
theorem dL_foretold_234 : decode cL_foretold 234 = .ok (.ifCond .le 152, 3) := by decide +kernel
theorem dL_foretold_237 : decode cL_foretold 237 = .ok (.iload 5, 2) := by decide +kernel
theorem dL_foretold_239 : decode cL_foretold 239 = .ok (.ifCond .eq 147, 3) := by decide +kernel
theorem dL_foretold_242 : decode cL_foretold 242 = .ok (.aload_n 1, 1) := by decide +kernel
theorem dL_foretold_243 : decode cL_foretold 243 = .ok (.invokestatic 62, 3) := by decide +kernel
theorem dL_foretold_246 : decode cL_foretold 246 = .ok (.aload_n 0, 1) := by decide +kernel
theorem dL_foretold_247 : decode cL_foretold 247 = .ok (.iconst 2, 1) := by decide +kernel
theorem dL_foretold_248 : decode cL_foretold 248 = .ok (.invokevirtual 103, 3) := by decide +kernel
theorem dL_foretold_251 : decode cL_foretold 251 = .ok (.irem, 1) := by decide +kernel
theorem dL_foretold_252 : decode cL_foretold 252 = .ok (.istore 13, 2) := by decide +kernel
theorem dL_foretold_254 : decode cL_foretold 254 = .ok (.aload_n 0, 1) := by decide +kernel
theorem dL_foretold_255 : decode cL_foretold 255 = .ok (.iload 13, 2) := by decide +kernel
theorem dL_foretold_257 : decode cL_foretold 257 = .ok (.iconst 2, 1) := by decide +kernel
theorem dL_foretold_258 : decode cL_foretold 258 = .ok (.invokevirtual 241, 3) := by decide +kernel
theorem dL_foretold_261 : decode cL_foretold 261 = .ok (.istore 10, 2) := by decide +kernel
theorem dL_foretold_263 : decode cL_foretold 263 = .ok (.aload_n 0, 1) := by decide +kernel
theorem dL_foretold_264 : decode cL_foretold 264 = .ok (.iload 13, 2) := by decide +kernel
theorem dL_foretold_266 : decode cL_foretold 266 = .ok (.invokevirtual 116, 3) := by decide +kernel
theorem dL_foretold_269 : decode cL_foretold 269 = .ok (.istore 14, 2) := by decide +kernel
theorem dL_foretold_271 : decode cL_foretold 271 = .ok (.iload 14, 2) := by decide +kernel
theorem dL_foretold_273 : decode cL_foretold 273 = .ok (.ifCond .lt 29, 3) := by decide +kernel
theorem dL_foretold_276 : decode cL_foretold 276 = .ok (.aload_n 0, 1) := by decide +kernel
theorem dL_foretold_277 : decode cL_foretold 277 = .ok (.bipush 10, 2) := by decide +kernel
theorem dL_foretold_279 : decode cL_foretold 279 = .ok (.invokevirtual 103, 3) := by decide +kernel
theorem dL_foretold_282 : decode cL_foretold 282 = .ok (.iload 10, 2) := by decide +kernel
theorem dL_foretold_284 : decode cL_foretold 284 = .ok (.if_icmp .ne 14, 3) := by decide +kernel
theorem dL_foretold_287 : decode cL_foretold 287 = .ok (.aload_n 0, 1) := by decide +kernel
theorem dL_foretold_288 : decode cL_foretold 288 = .ok (.invokevirtual 225, 3) := by decide +kernel
theorem dL_foretold_291 : decode cL_foretold 291 = .ok (.ifCond .lt 7, 3) := by decide +kernel
theorem dL_foretold_294 : decode cL_foretold 294 = .ok (.iconst 1, 1) := by decide +kernel
theorem dL_foretold_295 : decode cL_foretold 295 = .ok (.goto 26, 3) := by decide +kernel
theorem dL_foretold_298 : decode cL_foretold 298 = .ok (.iconst 0, 1) := by decide +kernel
theorem dL_foretold_299 : decode cL_foretold 299 = .ok (.goto 22, 3) := by decide +kernel
theorem dL_foretold_302 : decode cL_foretold 302 = .ok (.iload 14, 2) := by decide +kernel
theorem dL_foretold_304 : decode cL_foretold 304 = .ok (.bipush (-5), 2) := by decide +kernel
theorem dL_foretold_306 : decode cL_foretold 306 = .ok (.if_icmp .ne 14, 3) := by decide +kernel
theorem dL_foretold_309 : decode cL_foretold 309 = .ok (.iload 10, 2) := by decide +kernel
theorem dL_foretold_311 : decode cL_foretold 311 = .ok (.bipush (-5), 2) := by decide +kernel
theorem dL_foretold_313 : decode cL_foretold 313 = .ok (.if_icmp .ne 7, 3) := by decide +kernel
theorem dL_foretold_316 : decode cL_foretold 316 = .ok (.iconst 1, 1) := by decide +kernel
theorem dL_foretold_317 : decode cL_foretold 317 = .ok (.goto 4, 3) := by decide +kernel
theorem dL_foretold_320 : decode cL_foretold 320 = .ok (.iconst 0, 1) := by decide +kernel
theorem dL_foretold_321 : decode cL_foretold 321 = .ok (.istore 5, 2) := by decide +kernel
theorem dL_foretold_323 : decode cL_foretold 323 = .ok (.aload_n 0, 1) := by decide +kernel
theorem dL_foretold_324 : decode cL_foretold 324 = .ok (.iload 13, 2) := by decide +kernel
theorem dL_foretold_326 : decode cL_foretold 326 = .ok (.iconst 2, 1) := by decide +kernel
theorem dL_foretold_327 : decode cL_foretold 327 = .ok (.invokevirtual 244, 3) := by decide +kernel
theorem dL_foretold_330 : decode cL_foretold 330 = .ok (.istore 10, 2) := by decide +kernel
theorem dL_foretold_332 : decode cL_foretold 332 = .ok (.aload_n 0, 1) := by decide +kernel
theorem dL_foretold_333 : decode cL_foretold 333 = .ok (.iload 13, 2) := by decide +kernel
theorem dL_foretold_335 : decode cL_foretold 335 = .ok (.invokevirtual 110, 3) := by decide +kernel
theorem dL_foretold_338 : decode cL_foretold 338 = .ok (.istore 15, 2) := by decide +kernel
theorem dL_foretold_340 : decode cL_foretold 340 = .ok (.iload 5, 2) := by decide +kernel
theorem dL_foretold_342 : decode cL_foretold 342 = .ok (.ifCond .eq 41, 3) := by decide +kernel
theorem dL_foretold_345 : decode cL_foretold 345 = .ok (.iload 15, 2) := by decide +kernel
theorem dL_foretold_347 : decode cL_foretold 347 = .ok (.ifCond .lt 36, 3) := by decide +kernel
theorem dL_foretold_350 : decode cL_foretold 350 = .ok (.aload_n 0, 1) := by decide +kernel
theorem dL_foretold_351 : decode cL_foretold 351 = .ok (.bipush 10, 2) := by decide +kernel
theorem dL_foretold_353 : decode cL_foretold 353 = .ok (.invokevirtual 103, 3) := by decide +kernel
theorem dL_foretold_356 : decode cL_foretold 356 = .ok (.iload 10, 2) := by decide +kernel
theorem dL_foretold_358 : decode cL_foretold 358 = .ok (.if_icmp .ne 25, 3) := by decide +kernel
theorem dL_foretold_361 : decode cL_foretold 361 = .ok (.aload_n 0, 1) := by decide +kernel
theorem dL_foretold_362 : decode cL_foretold 362 = .ok (.invokevirtual 225, 3) := by decide +kernel
theorem dL_foretold_365 : decode cL_foretold 365 = .ok (.ifCond .lt 18, 3) := by decide +kernel
theorem dL_foretold_368 : decode cL_foretold 368 = .ok (.aload_n 0, 1) := by decide +kernel
theorem dL_foretold_369 : decode cL_foretold 369 = .ok (.aload_n 2, 1) := by decide +kernel
theorem dL_foretold_370 : decode cL_foretold 370 = .ok (.iload 4, 2) := by decide +kernel
theorem dL_foretold_372 : decode cL_foretold 372 = .ok (.aload_n 3, 1) := by decide +kernel
theorem dL_foretold_373 : decode cL_foretold 373 = .ok (.invokestatic 218, 3) := by decide +kernel
theorem dL_foretold_376 : decode cL_foretold 376 = .ok (.ifCond .eq 7, 3) := by decide +kernel
theorem dL_foretold_379 : decode cL_foretold 379 = .ok (.iconst 1, 1) := by decide +kernel
theorem dL_foretold_380 : decode cL_foretold 380 = .ok (.goto 4, 3) := by decide +kernel
theorem dL_foretold_383 : decode cL_foretold 383 = .ok (.iconst 0, 1) := by decide +kernel
theorem dL_foretold_384 : decode cL_foretold 384 = .ok (.istore 5, 2) := by decide +kernel
theorem dL_foretold_386 : decode cL_foretold 386 = .ok (.iconst 0, 1) := by decide +kernel
theorem dL_foretold_387 : decode cL_foretold 387 = .ok (.istore 13, 2) := by decide +kernel
theorem dL_foretold_389 : decode cL_foretold 389 = .ok (.iconst 0, 1) := by decide +kernel
theorem dL_foretold_390 : decode cL_foretold 390 = .ok (.istore 14, 2) := by decide +kernel
theorem dL_foretold_392 : decode cL_foretold 392 = .ok (.iload 14, 2) := by decide +kernel
theorem dL_foretold_394 : decode cL_foretold 394 = .ok (.aload_n 0, 1) := by decide +kernel
theorem dL_foretold_395 : decode cL_foretold 395 = .ok (.iconst 1, 1) := by decide +kernel
theorem dL_foretold_396 : decode cL_foretold 396 = .ok (.invokevirtual 103, 3) := by decide +kernel
theorem dL_foretold_399 : decode cL_foretold 399 = .ok (.if_icmp .ge 44, 3) := by decide +kernel
theorem dL_foretold_402 : decode cL_foretold 402 = .ok (.iconst 0, 1) := by decide +kernel
theorem dL_foretold_403 : decode cL_foretold 403 = .ok (.istore 15, 2) := by decide +kernel
theorem dL_foretold_405 : decode cL_foretold 405 = .ok (.iload 15, 2) := by decide +kernel
theorem dL_foretold_407 : decode cL_foretold 407 = .ok (.aload_n 0, 1) := by decide +kernel
theorem dL_foretold_408 : decode cL_foretold 408 = .ok (.iconst 1, 1) := by decide +kernel
theorem dL_foretold_409 : decode cL_foretold 409 = .ok (.invokevirtual 103, 3) := by decide +kernel
theorem dL_foretold_412 : decode cL_foretold 412 = .ok (.if_icmp .ge 25, 3) := by decide +kernel
theorem dL_foretold_415 : decode cL_foretold 415 = .ok (.bipush 31, 2) := by decide +kernel
theorem dL_foretold_417 : decode cL_foretold 417 = .ok (.iload 13, 2) := by decide +kernel
theorem dL_foretold_419 : decode cL_foretold 419 = .ok (.imul, 1) := by decide +kernel
theorem dL_foretold_420 : decode cL_foretold 420 = .ok (.aload_n 0, 1) := by decide +kernel
theorem dL_foretold_421 : decode cL_foretold 421 = .ok (.iload 14, 2) := by decide +kernel
theorem dL_foretold_423 : decode cL_foretold 423 = .ok (.iload 15, 2) := by decide +kernel
theorem dL_foretold_425 : decode cL_foretold 425 = .ok (.invokevirtual 178, 3) := by decide +kernel
theorem dL_foretold_428 : decode cL_foretold 428 = .ok (.iadd, 1) := by decide +kernel
theorem dL_foretold_429 : decode cL_foretold 429 = .ok (.istore 13, 2) := by decide +kernel
theorem dL_foretold_431 : decode cL_foretold 431 = .ok (.iinc 15 1, 3) := by decide +kernel
theorem dL_foretold_434 : decode cL_foretold 434 = .ok (.goto (-29), 3) := by decide +kernel
theorem dL_foretold_437 : decode cL_foretold 437 = .ok (.iinc 14 1, 3) := by decide +kernel
theorem dL_foretold_440 : decode cL_foretold 440 = .ok (.goto (-48), 3) := by decide +kernel
theorem dL_foretold_443 : decode cL_foretold 443 = .ok (.aload_n 0, 1) := by decide +kernel
theorem dL_foretold_444 : decode cL_foretold 444 = .ok (.invokevirtual 247, 3) := by decide +kernel
theorem dL_foretold_447 : decode cL_foretold 447 = .ok (.istore 14, 2) := by decide +kernel
theorem dL_foretold_449 : decode cL_foretold 449 = .ok (.aload_n 0, 1) := by decide +kernel
theorem dL_foretold_450 : decode cL_foretold 450 = .ok (.invokevirtual 134, 3) := by decide +kernel
theorem dL_foretold_453 : decode cL_foretold 453 = .ok (.istore 15, 2) := by decide +kernel
theorem dL_foretold_455 : decode cL_foretold 455 = .ok (.aload_n 0, 1) := by decide +kernel
theorem dL_foretold_456 : decode cL_foretold 456 = .ok (.invokevirtual 131, 3) := by decide +kernel
theorem dL_foretold_459 : decode cL_foretold 459 = .ok (.istore 16, 2) := by decide +kernel
theorem dL_foretold_461 : decode cL_foretold 461 = .ok (.iconst 0, 1) := by decide +kernel
theorem dL_foretold_462 : decode cL_foretold 462 = .ok (.istore 17, 2) := by decide +kernel
theorem dL_foretold_464 : decode cL_foretold 464 = .ok (.iconst 0, 1) := by decide +kernel
theorem dL_foretold_465 : decode cL_foretold 465 = .ok (.istore 18, 2) := by decide +kernel
theorem dL_foretold_467 : decode cL_foretold 467 = .ok (.iload 18, 2) := by decide +kernel
theorem dL_foretold_469 : decode cL_foretold 469 = .ok (.aload_n 0, 1) := by decide +kernel
theorem dL_foretold_470 : decode cL_foretold 470 = .ok (.iconst 1, 1) := by decide +kernel
theorem dL_foretold_471 : decode cL_foretold 471 = .ok (.invokevirtual 103, 3) := by decide +kernel
theorem dL_foretold_474 : decode cL_foretold 474 = .ok (.if_icmp .ge 44, 3) := by decide +kernel
theorem dL_foretold_477 : decode cL_foretold 477 = .ok (.iconst 0, 1) := by decide +kernel
theorem dL_foretold_478 : decode cL_foretold 478 = .ok (.istore 19, 2) := by decide +kernel
theorem dL_foretold_480 : decode cL_foretold 480 = .ok (.iload 19, 2) := by decide +kernel
theorem dL_foretold_482 : decode cL_foretold 482 = .ok (.aload_n 0, 1) := by decide +kernel
theorem dL_foretold_483 : decode cL_foretold 483 = .ok (.iconst 1, 1) := by decide +kernel
theorem dL_foretold_484 : decode cL_foretold 484 = .ok (.invokevirtual 103, 3) := by decide +kernel
theorem dL_foretold_487 : decode cL_foretold 487 = .ok (.if_icmp .ge 25, 3) := by decide +kernel
theorem dL_foretold_490 : decode cL_foretold 490 = .ok (.bipush 31, 2) := by decide +kernel
theorem dL_foretold_492 : decode cL_foretold 492 = .ok (.iload 17, 2) := by decide +kernel
theorem dL_foretold_494 : decode cL_foretold 494 = .ok (.imul, 1) := by decide +kernel
theorem dL_foretold_495 : decode cL_foretold 495 = .ok (.aload_n 0, 1) := by decide +kernel
theorem dL_foretold_496 : decode cL_foretold 496 = .ok (.iload 18, 2) := by decide +kernel
theorem dL_foretold_498 : decode cL_foretold 498 = .ok (.iload 19, 2) := by decide +kernel
theorem dL_foretold_500 : decode cL_foretold 500 = .ok (.invokevirtual 178, 3) := by decide +kernel
theorem dL_foretold_503 : decode cL_foretold 503 = .ok (.iadd, 1) := by decide +kernel
theorem dL_foretold_504 : decode cL_foretold 504 = .ok (.istore 17, 2) := by decide +kernel
theorem dL_foretold_506 : decode cL_foretold 506 = .ok (.iinc 19 1, 3) := by decide +kernel
theorem dL_foretold_509 : decode cL_foretold 509 = .ok (.goto (-29), 3) := by decide +kernel
theorem dL_foretold_512 : decode cL_foretold 512 = .ok (.iinc 18 1, 3) := by decide +kernel
theorem dL_foretold_515 : decode cL_foretold 515 = .ok (.goto (-48), 3) := by decide +kernel
theorem dL_foretold_518 : decode cL_foretold 518 = .ok (.iload 5, 2) := by decide +kernel
theorem dL_foretold_520 : decode cL_foretold 520 = .ok (.ifCond .eq 83, 3) := by decide +kernel
theorem dL_foretold_523 : decode cL_foretold 523 = .ok (.iload 17, 2) := by decide +kernel
theorem dL_foretold_525 : decode cL_foretold 525 = .ok (.iload 13, 2) := by decide +kernel
theorem dL_foretold_527 : decode cL_foretold 527 = .ok (.if_icmp .ne 76, 3) := by decide +kernel
theorem dL_foretold_530 : decode cL_foretold 530 = .ok (.iload 14, 2) := by decide +kernel
theorem dL_foretold_532 : decode cL_foretold 532 = .ok (.ifCond .ge 7, 3) := by decide +kernel
theorem dL_foretold_535 : decode cL_foretold 535 = .ok (.iconst 1, 1) := by decide +kernel
theorem dL_foretold_536 : decode cL_foretold 536 = .ok (.goto 4, 3) := by decide +kernel
theorem dL_foretold_539 : decode cL_foretold 539 = .ok (.iconst 0, 1) := by decide +kernel
theorem dL_foretold_540 : decode cL_foretold 540 = .ok (.iload 15, 2) := by decide +kernel
theorem dL_foretold_542 : decode cL_foretold 542 = .ok (.bipush (-2), 2) := by decide +kernel
theorem dL_foretold_544 : decode cL_foretold 544 = .ok (.if_icmp .ne 7, 3) := by decide +kernel
theorem dL_foretold_547 : decode cL_foretold 547 = .ok (.iconst 1, 1) := by decide +kernel
theorem dL_foretold_548 : decode cL_foretold 548 = .ok (.goto 4, 3) := by decide +kernel
theorem dL_foretold_551 : decode cL_foretold 551 = .ok (.iconst 0, 1) := by decide +kernel
theorem dL_foretold_552 : decode cL_foretold 552 = .ok (.if_icmp .ne 51, 3) := by decide +kernel
theorem dL_foretold_555 : decode cL_foretold 555 = .ok (.aload_n 0, 1) := by decide +kernel
theorem dL_foretold_556 : decode cL_foretold 556 = .ok (.invokevirtual 247, 3) := by decide +kernel
theorem dL_foretold_559 : decode cL_foretold 559 = .ok (.bipush (-2), 2) := by decide +kernel
theorem dL_foretold_561 : decode cL_foretold 561 = .ok (.if_icmp .ne 42, 3) := by decide +kernel
theorem dL_foretold_564 : decode cL_foretold 564 = .ok (.iload 16, 2) := by decide +kernel
theorem dL_foretold_566 : decode cL_foretold 566 = .ok (.ifCond .lt 10, 3) := by decide +kernel
theorem dL_foretold_569 : decode cL_foretold 569 = .ok (.aload_n 0, 1) := by decide +kernel
theorem dL_foretold_570 : decode cL_foretold 570 = .ok (.invokevirtual 225, 3) := by decide +kernel
theorem dL_foretold_573 : decode cL_foretold 573 = .ok (.ifCond .lt 30, 3) := by decide +kernel
theorem dL_foretold_576 : decode cL_foretold 576 = .ok (.iload 15, 2) := by decide +kernel
theorem dL_foretold_578 : decode cL_foretold 578 = .ok (.ifCond .lt 10, 3) := by decide +kernel
theorem dL_foretold_581 : decode cL_foretold 581 = .ok (.aload_n 0, 1) := by decide +kernel
theorem dL_foretold_582 : decode cL_foretold 582 = .ok (.invokevirtual 225, 3) := by decide +kernel
theorem dL_foretold_585 : decode cL_foretold 585 = .ok (.ifCond .lt 18, 3) := by decide +kernel
theorem dL_foretold_588 : decode cL_foretold 588 = .ok (.aload_n 0, 1) := by decide +kernel
theorem dL_foretold_589 : decode cL_foretold 589 = .ok (.aload_n 2, 1) := by decide +kernel
theorem dL_foretold_590 : decode cL_foretold 590 = .ok (.iload 4, 2) := by decide +kernel
theorem dL_foretold_592 : decode cL_foretold 592 = .ok (.aload_n 3, 1) := by decide +kernel
theorem dL_foretold_593 : decode cL_foretold 593 = .ok (.invokestatic 218, 3) := by decide +kernel
theorem dL_foretold_596 : decode cL_foretold 596 = .ok (.ifCond .eq 7, 3) := by decide +kernel
theorem dL_foretold_599 : decode cL_foretold 599 = .ok (.iconst 1, 1) := by decide +kernel
theorem dL_foretold_600 : decode cL_foretold 600 = .ok (.goto 4, 3) := by decide +kernel
theorem dL_foretold_603 : decode cL_foretold 603 = .ok (.iconst 0, 1) := by decide +kernel
theorem dL_foretold_604 : decode cL_foretold 604 = .ok (.istore 5, 2) := by decide +kernel
theorem dL_foretold_606 : decode cL_foretold 606 = .ok (.iconst (-1), 1) := by decide +kernel
theorem dL_foretold_607 : decode cL_foretold 607 = .ok (.istore 18, 2) := by decide +kernel
theorem dL_foretold_609 : decode cL_foretold 609 = .ok (.iconst 0, 1) := by decide +kernel
theorem dL_foretold_610 : decode cL_foretold 610 = .ok (.istore 19, 2) := by decide +kernel
theorem dL_foretold_612 : decode cL_foretold 612 = .ok (.iload 19, 2) := by decide +kernel
theorem dL_foretold_614 : decode cL_foretold 614 = .ok (.aload_n 0, 1) := by decide +kernel
theorem dL_foretold_615 : decode cL_foretold 615 = .ok (.iconst 1, 1) := by decide +kernel
theorem dL_foretold_616 : decode cL_foretold 616 = .ok (.invokevirtual 103, 3) := by decide +kernel
theorem dL_foretold_619 : decode cL_foretold 619 = .ok (.if_icmp .ge 101, 3) := by decide +kernel
theorem dL_foretold_622 : decode cL_foretold 622 = .ok (.iload 5, 2) := by decide +kernel
theorem dL_foretold_624 : decode cL_foretold 624 = .ok (.ifCond .eq 96, 3) := by decide +kernel
theorem dL_foretold_627 : decode cL_foretold 627 = .ok (.aload_n 0, 1) := by decide +kernel
theorem dL_foretold_628 : decode cL_foretold 628 = .ok (.aload_n 0, 1) := by decide +kernel
theorem dL_foretold_629 : decode cL_foretold 629 = .ok (.iload 19, 2) := by decide +kernel
theorem dL_foretold_631 : decode cL_foretold 631 = .ok (.invokevirtual 250, 3) := by decide +kernel
theorem dL_foretold_634 : decode cL_foretold 634 = .ok (.iconst 0, 1) := by decide +kernel
theorem dL_foretold_635 : decode cL_foretold 635 = .ok (.invokevirtual 148, 3) := by decide +kernel
theorem dL_foretold_638 : decode cL_foretold 638 = .ok (.iload 18, 2) := by decide +kernel
theorem dL_foretold_640 : decode cL_foretold 640 = .ok (.if_icmp .lt 58, 3) := by decide +kernel
theorem dL_foretold_643 : decode cL_foretold 643 = .ok (.aload_n 0, 1) := by decide +kernel
theorem dL_foretold_644 : decode cL_foretold 644 = .ok (.aload_n 0, 1) := by decide +kernel
theorem dL_foretold_645 : decode cL_foretold 645 = .ok (.invokevirtual 253, 3) := by decide +kernel
theorem dL_foretold_648 : decode cL_foretold 648 = .ok (.iconst 2, 1) := by decide +kernel
theorem dL_foretold_649 : decode cL_foretold 649 = .ok (.invokevirtual 148, 3) := by decide +kernel
theorem dL_foretold_652 : decode cL_foretold 652 = .ok (.aload_n 0, 1) := by decide +kernel
theorem dL_foretold_653 : decode cL_foretold 653 = .ok (.iload 19, 2) := by decide +kernel
theorem dL_foretold_655 : decode cL_foretold 655 = .ok (.iconst 2, 1) := by decide +kernel
theorem dL_foretold_656 : decode cL_foretold 656 = .ok (.invokevirtual 148, 3) := by decide +kernel
theorem dL_foretold_659 : decode cL_foretold 659 = .ok (.if_icmp .lt 39, 3) := by decide +kernel
theorem dL_foretold_662 : decode cL_foretold 662 = .ok (.iload 19, 2) := by decide +kernel
theorem dL_foretold_664 : decode cL_foretold 664 = .ok (.ifCond .eq 30, 3) := by decide +kernel
theorem dL_foretold_667 : decode cL_foretold 667 = .ok (.aload_n 0, 1) := by decide +kernel
theorem dL_foretold_668 : decode cL_foretold 668 = .ok (.aload_n 0, 1) := by decide +kernel
theorem dL_foretold_669 : decode cL_foretold 669 = .ok (.iload 19, 2) := by decide +kernel
theorem dL_foretold_671 : decode cL_foretold 671 = .ok (.invokevirtual 256, 3) := by decide +kernel
theorem dL_foretold_674 : decode cL_foretold 674 = .ok (.iconst 1, 1) := by decide +kernel
theorem dL_foretold_675 : decode cL_foretold 675 = .ok (.invokevirtual 148, 3) := by decide +kernel
theorem dL_foretold_678 : decode cL_foretold 678 = .ok (.aload_n 0, 1) := by decide +kernel
theorem dL_foretold_679 : decode cL_foretold 679 = .ok (.aload_n 0, 1) := by decide +kernel
theorem dL_foretold_680 : decode cL_foretold 680 = .ok (.iload 19, 2) := by decide +kernel
theorem dL_foretold_682 : decode cL_foretold 682 = .ok (.iconst 1, 1) := by decide +kernel
theorem dL_foretold_683 : decode cL_foretold 683 = .ok (.isub, 1) := by decide +kernel
theorem dL_foretold_684 : decode cL_foretold 684 = .ok (.invokevirtual 256, 3) := by decide +kernel
theorem dL_foretold_687 : decode cL_foretold 687 = .ok (.iconst 1, 1) := by decide +kernel
theorem dL_foretold_688 : decode cL_foretold 688 = .ok (.invokevirtual 148, 3) := by decide +kernel
theorem dL_foretold_691 : decode cL_foretold 691 = .ok (.if_icmp .lt 7, 3) := by decide +kernel
theorem dL_foretold_694 : decode cL_foretold 694 = .ok (.iconst 1, 1) := by decide +kernel
theorem dL_foretold_695 : decode cL_foretold 695 = .ok (.goto 4, 3) := by decide +kernel
theorem dL_foretold_698 : decode cL_foretold 698 = .ok (.iconst 0, 1) := by decide +kernel
theorem dL_foretold_699 : decode cL_foretold 699 = .ok (.istore 5, 2) := by decide +kernel
theorem dL_foretold_701 : decode cL_foretold 701 = .ok (.aload_n 0, 1) := by decide +kernel
theorem dL_foretold_702 : decode cL_foretold 702 = .ok (.aload_n 0, 1) := by decide +kernel
theorem dL_foretold_703 : decode cL_foretold 703 = .ok (.iload 19, 2) := by decide +kernel
theorem dL_foretold_705 : decode cL_foretold 705 = .ok (.invokevirtual 250, 3) := by decide +kernel
theorem dL_foretold_708 : decode cL_foretold 708 = .ok (.iconst 0, 1) := by decide +kernel
theorem dL_foretold_709 : decode cL_foretold 709 = .ok (.invokevirtual 148, 3) := by decide +kernel
theorem dL_foretold_712 : decode cL_foretold 712 = .ok (.istore 18, 2) := by decide +kernel
theorem dL_foretold_714 : decode cL_foretold 714 = .ok (.iinc 19 1, 3) := by decide +kernel
theorem dL_foretold_717 : decode cL_foretold 717 = .ok (.goto (-105), 3) := by decide +kernel
theorem dL_foretold_720 : decode cL_foretold 720 = .ok (.iload 5, 2) := by decide +kernel
theorem dL_foretold_722 : decode cL_foretold 722 = .ok (.ifCond .eq 32, 3) := by decide +kernel
theorem dL_foretold_725 : decode cL_foretold 725 = .ok (.iload 18, 2) := by decide +kernel
theorem dL_foretold_727 : decode cL_foretold 727 = .ok (.aload_n 0, 1) := by decide +kernel
theorem dL_foretold_728 : decode cL_foretold 728 = .ok (.bipush 9, 2) := by decide +kernel
theorem dL_foretold_730 : decode cL_foretold 730 = .ok (.invokevirtual 103, 3) := by decide +kernel
theorem dL_foretold_733 : decode cL_foretold 733 = .ok (.if_icmp .ne 21, 3) := by decide +kernel
theorem dL_foretold_736 : decode cL_foretold 736 = .ok (.aload_n 0, 1) := by decide +kernel
theorem dL_foretold_737 : decode cL_foretold 737 = .ok (.aload_n 0, 1) := by decide +kernel
theorem dL_foretold_738 : decode cL_foretold 738 = .ok (.iconst 1, 1) := by decide +kernel
theorem dL_foretold_739 : decode cL_foretold 739 = .ok (.invokevirtual 103, 3) := by decide +kernel
theorem dL_foretold_742 : decode cL_foretold 742 = .ok (.invokevirtual 250, 3) := by decide +kernel
theorem dL_foretold_745 : decode cL_foretold 745 = .ok (.bipush (-2), 2) := by decide +kernel
theorem dL_foretold_747 : decode cL_foretold 747 = .ok (.if_icmp .ne 7, 3) := by decide +kernel
theorem dL_foretold_750 : decode cL_foretold 750 = .ok (.iconst 1, 1) := by decide +kernel
theorem dL_foretold_751 : decode cL_foretold 751 = .ok (.goto 4, 3) := by decide +kernel
theorem dL_foretold_754 : decode cL_foretold 754 = .ok (.iconst 0, 1) := by decide +kernel
theorem dL_foretold_755 : decode cL_foretold 755 = .ok (.ireturn, 1) := by decide +kernel
theorem dL_undone_0 : decode cL_undone 0 = .ok (.aload_n 0, 1) := by decide +kernel
theorem dL_undone_1 : decode cL_undone 1 = .ok (.aload_n 2, 1) := by decide +kernel
theorem dL_undone_2 : decode cL_undone 2 = .ok (.invokestatic 160, 3) := by decide +kernel
theorem dL_undone_5 : decode cL_undone 5 = .ok (.istore 4, 2) := by decide +kernel
theorem dL_undone_7 : decode cL_undone 7 = .ok (.aload_n 0, 1) := by decide +kernel
theorem dL_undone_8 : decode cL_undone 8 = .ok (.iconst 0, 1) := by decide +kernel
theorem dL_undone_9 : decode cL_undone 9 = .ok (.invokevirtual 259, 3) := by decide +kernel
theorem dL_undone_12 : decode cL_undone 12 = .ok (.istore 5, 2) := by decide +kernel
theorem dL_undone_14 : decode cL_undone 14 = .ok (.iconst 0, 1) := by decide +kernel
theorem dL_undone_15 : decode cL_undone 15 = .ok (.istore 6, 2) := by decide +kernel
theorem dL_undone_17 : decode cL_undone 17 = .ok (.iload 6, 2) := by decide +kernel
theorem dL_undone_19 : decode cL_undone 19 = .ok (.bipush 7, 2) := by decide +kernel
theorem dL_undone_21 : decode cL_undone 21 = .ok (.if_icmp .ge 16, 3) := by decide +kernel
theorem dL_undone_24 : decode cL_undone 24 = .ok (.aload_n 0, 1) := by decide +kernel
theorem dL_undone_25 : decode cL_undone 25 = .ok (.aload_n 1, 1) := by decide +kernel
theorem dL_undone_26 : decode cL_undone 26 = .ok (.invokestatic 262, 3) := by decide +kernel
theorem dL_undone_29 : decode cL_undone 29 = .ok (.istore 7, 2) := by decide +kernel
theorem dL_undone_31 : decode cL_undone 31 = .ok (.iinc 6 1, 3) := by decide +kernel
theorem dL_undone_34 : decode cL_undone 34 = .ok (.goto (-17), 3) := by decide +kernel
theorem dL_undone_37 : decode cL_undone 37 = .ok (.iload 5, 2) := by decide +kernel
theorem dL_undone_39 : decode cL_undone 39 = .ok (.aload_n 2, 1) := by decide +kernel
theorem dL_undone_40 : decode cL_undone 40 = .ok (.iconst 2, 1) := by decide +kernel
theorem dL_undone_41 : decode cL_undone 41 = .ok (.iaload, 1) := by decide +kernel
theorem dL_undone_42 : decode cL_undone 42 = .ok (.if_icmp .ne 237, 3) := by decide +kernel
theorem dL_undone_45 : decode cL_undone 45 = .ok (.aload_n 0, 1) := by decide +kernel
theorem dL_undone_46 : decode cL_undone 46 = .ok (.iconst 0, 1) := by decide +kernel
theorem dL_undone_47 : decode cL_undone 47 = .ok (.invokevirtual 265, 3) := by decide +kernel
theorem dL_undone_50 : decode cL_undone 50 = .ok (.iload 5, 2) := by decide +kernel
theorem dL_undone_52 : decode cL_undone 52 = .ok (.if_icmp .ne 227, 3) := by decide +kernel
theorem dL_undone_55 : decode cL_undone 55 = .ok (.aload_n 0, 1) := by decide +kernel
theorem dL_undone_56 : decode cL_undone 56 = .ok (.aload_n 2, 1) := by decide +kernel
theorem dL_undone_57 : decode cL_undone 57 = .ok (.iload 4, 2) := by decide +kernel
theorem dL_undone_59 : decode cL_undone 59 = .ok (.aload_n 3, 1) := by decide +kernel
theorem dL_undone_60 : decode cL_undone 60 = .ok (.invokestatic 218, 3) := by decide +kernel
theorem dL_undone_63 : decode cL_undone 63 = .ok (.ifCond .eq 216, 3) := by decide +kernel
theorem dL_undone_66 : decode cL_undone 66 = .ok (.aload_n 0, 1) := by decide +kernel
theorem dL_undone_67 : decode cL_undone 67 = .ok (.iconst 0, 1) := by decide +kernel
theorem dL_undone_68 : decode cL_undone 68 = .ok (.iconst 0, 1) := by decide +kernel
theorem dL_undone_69 : decode cL_undone 69 = .ok (.iconst 0, 1) := by decide +kernel
theorem dL_undone_70 : decode cL_undone 70 = .ok (.iconst 1, 1) := by decide +kernel
theorem dL_undone_71 : decode cL_undone 71 = .ok (.invokevirtual 106, 3) := by decide +kernel
theorem dL_undone_74 : decode cL_undone 74 = .ok (.iconst (-1), 1) := by decide +kernel
theorem dL_undone_75 : decode cL_undone 75 = .ok (.if_icmp .ne 204, 3) := by decide +kernel
theorem dL_undone_78 : decode cL_undone 78 = .ok (.aload_n 0, 1) := by decide +kernel
theorem dL_undone_79 : decode cL_undone 79 = .ok (.iconst 0, 1) := by decide +kernel
theorem dL_undone_80 : decode cL_undone 80 = .ok (.iconst 1, 1) := by decide +kernel
theorem dL_undone_81 : decode cL_undone 81 = .ok (.iconst 2, 1) := by decide +kernel
theorem dL_undone_82 : decode cL_undone 82 = .ok (.iconst 1, 1) := by decide +kernel
theorem dL_undone_83 : decode cL_undone 83 = .ok (.invokevirtual 106, 3) := by decide +kernel
theorem dL_undone_86 : decode cL_undone 86 = .ok (.iconst (-1), 1) := by decide +kernel
theorem dL_undone_87 : decode cL_undone 87 = .ok (.if_icmp .ne 192, 3) := by decide +kernel
theorem dL_undone_90 : decode cL_undone 90 = .ok (.aload_n 0, 1) := by decide +kernel
theorem dL_undone_91 : decode cL_undone 91 = .ok (.iload 5, 2) := by decide +kernel
theorem dL_undone_93 : decode cL_undone 93 = .ok (.invokevirtual 110, 3) := by decide +kernel
theorem dL_undone_96 : decode cL_undone 96 = .ok (.iconst (-1), 1) := by decide +kernel
theorem dL_undone_97 : decode cL_undone 97 = .ok (.if_icmp .ne 182, 3) := by decide +kernel
theorem dL_undone_100 : decode cL_undone 100 = .ok (.aload_n 0, 1) := by decide +kernel
theorem dL_undone_101 : decode cL_undone 101 = .ok (.iconst (-1), 1) := by decide +kernel
theorem dL_undone_102 : decode cL_undone 102 = .ok (.iconst 0, 1) := by decide +kernel
theorem dL_undone_103 : decode cL_undone 103 = .ok (.invokevirtual 113, 3) := by decide +kernel
theorem dL_undone_106 : decode cL_undone 106 = .ok (.iconst (-1), 1) := by decide +kernel
theorem dL_undone_107 : decode cL_undone 107 = .ok (.if_icmp .ne 172, 3) := by decide +kernel
theorem dL_undone_110 : decode cL_undone 110 = .ok (.aload_n 0, 1) := by decide +kernel
theorem dL_undone_111 : decode cL_undone 111 = .ok (.iload 5, 2) := by decide +kernel
theorem dL_undone_113 : decode cL_undone 113 = .ok (.invokevirtual 116, 3) := by decide +kernel
theorem dL_undone_116 : decode cL_undone 116 = .ok (.iconst (-1), 1) := by decide +kernel
theorem dL_undone_117 : decode cL_undone 117 = .ok (.if_icmp .ne 162, 3) := by decide +kernel
theorem dL_undone_120 : decode cL_undone 120 = .ok (.aload_n 0, 1) := by decide +kernel
theorem dL_undone_121 : decode cL_undone 121 = .ok (.aload_n 0, 1) := by decide +kernel
theorem dL_undone_122 : decode cL_undone 122 = .ok (.iconst 1, 1) := by decide +kernel
theorem dL_undone_123 : decode cL_undone 123 = .ok (.invokevirtual 103, 3) := by decide +kernel
theorem dL_undone_126 : decode cL_undone 126 = .ok (.iconst 0, 1) := by decide +kernel
theorem dL_undone_127 : decode cL_undone 127 = .ok (.invokevirtual 119, 3) := by decide +kernel
theorem dL_undone_130 : decode cL_undone 130 = .ok (.iconst (-1), 1) := by decide +kernel
theorem dL_undone_131 : decode cL_undone 131 = .ok (.if_icmp .ne 148, 3) := by decide +kernel
theorem dL_undone_134 : decode cL_undone 134 = .ok (.aload_n 0, 1) := by decide +kernel
theorem dL_undone_135 : decode cL_undone 135 = .ok (.iconst 0, 1) := by decide +kernel
theorem dL_undone_136 : decode cL_undone 136 = .ok (.iconst 0, 1) := by decide +kernel
theorem dL_undone_137 : decode cL_undone 137 = .ok (.invokevirtual 119, 3) := by decide +kernel
theorem dL_undone_140 : decode cL_undone 140 = .ok (.bipush (-3), 2) := by decide +kernel
theorem dL_undone_142 : decode cL_undone 142 = .ok (.if_icmp .ne 137, 3) := by decide +kernel
theorem dL_undone_145 : decode cL_undone 145 = .ok (.aload_n 0, 1) := by decide +kernel
theorem dL_undone_146 : decode cL_undone 146 = .ok (.iconst 0, 1) := by decide +kernel
theorem dL_undone_147 : decode cL_undone 147 = .ok (.invokevirtual 122, 3) := by decide +kernel
theorem dL_undone_150 : decode cL_undone 150 = .ok (.bipush (-3), 2) := by decide +kernel
theorem dL_undone_152 : decode cL_undone 152 = .ok (.if_icmp .ne 127, 3) := by decide +kernel
theorem dL_undone_155 : decode cL_undone 155 = .ok (.aload_n 0, 1) := by decide +kernel
theorem dL_undone_156 : decode cL_undone 156 = .ok (.iconst 0, 1) := by decide +kernel
theorem dL_undone_157 : decode cL_undone 157 = .ok (.invokevirtual 125, 3) := by decide +kernel
theorem dL_undone_160 : decode cL_undone 160 = .ok (.iconst (-1), 1) := by decide +kernel
theorem dL_undone_161 : decode cL_undone 161 = .ok (.if_icmp .ne 118, 3) := by decide +kernel
theorem dL_undone_164 : decode cL_undone 164 = .ok (.aload_n 0, 1) := by decide +kernel
theorem dL_undone_165 : decode cL_undone 165 = .ok (.iload 5, 2) := by decide +kernel
theorem dL_undone_167 : decode cL_undone 167 = .ok (.invokevirtual 128, 3) := by decide +kernel
theorem dL_undone_170 : decode cL_undone 170 = .ok (.iconst (-1), 1) := by decide +kernel
theorem dL_undone_171 : decode cL_undone 171 = .ok (.if_icmp .ne 108, 3) := by decide +kernel
theorem dL_undone_174 : decode cL_undone 174 = .ok (.aload_n 0, 1) := by decide +kernel
theorem dL_undone_175 : decode cL_undone 175 = .ok (.iconst 2, 1) := by decide +kernel
theorem dL_undone_176 : decode cL_undone 176 = .ok (.invokevirtual 259, 3) := by decide +kernel
theorem dL_undone_179 : decode cL_undone 179 = .ok (.iconst (-1), 1) := by decide +kernel
theorem dL_undone_180 : decode cL_undone 180 = .ok (.if_icmp .ne 99, 3) := by decide +kernel
theorem dL_undone_183 : decode cL_undone 183 = .ok (.aload_n 0, 1) := by decide +kernel
theorem dL_undone_184 : decode cL_undone 184 = .ok (.iconst (-1), 1) := by decide +kernel
theorem dL_undone_185 : decode cL_undone 185 = .ok (.invokevirtual 265, 3) := by decide +kernel
theorem dL_undone_188 : decode cL_undone 188 = .ok (.iconst (-1), 1) := by decide +kernel
theorem dL_undone_189 : decode cL_undone 189 = .ok (.if_icmp .ne 90, 3) := by decide +kernel
theorem dL_undone_192 : decode cL_undone 192 = .ok (.aload_n 0, 1) := by decide +kernel
theorem dL_undone_193 : decode cL_undone 193 = .ok (.iconst 1, 1) := by decide +kernel
theorem dL_undone_194 : decode cL_undone 194 = .ok (.invokevirtual 265, 3) := by decide +kernel
theorem dL_undone_197 : decode cL_undone 197 = .ok (.bipush (-2), 2) := by decide +kernel
theorem dL_undone_199 : decode cL_undone 199 = .ok (.if_icmp .ne 80, 3) := by decide +kernel
theorem dL_undone_202 : decode cL_undone 202 = .ok (.aload_n 0, 1) := by decide +kernel
theorem dL_undone_203 : decode cL_undone 203 = .ok (.bipush 13, 2) := by decide +kernel
theorem dL_undone_205 : decode cL_undone 205 = .ok (.invokevirtual 103, 3) := by decide +kernel
theorem dL_undone_208 : decode cL_undone 208 = .ok (.iconst (-1), 1) := by decide +kernel
theorem dL_undone_209 : decode cL_undone 209 = .ok (.if_icmp .ne 70, 3) := by decide +kernel
theorem dL_undone_212 : decode cL_undone 212 = .ok (.aload_n 0, 1) := by decide +kernel
theorem dL_undone_213 : decode cL_undone 213 = .ok (.iconst (-1), 1) := by decide +kernel
theorem dL_undone_214 : decode cL_undone 214 = .ok (.iconst 0, 1) := by decide +kernel
theorem dL_undone_215 : decode cL_undone 215 = .ok (.invokevirtual 178, 3) := by decide +kernel
theorem dL_undone_218 : decode cL_undone 218 = .ok (.ldc_w 268, 3) := by decide +kernel
theorem dL_undone_221 : decode cL_undone 221 = .ok (.if_icmp .ne 58, 3) := by decide +kernel
theorem dL_undone_224 : decode cL_undone 224 = .ok (.aload_n 0, 1) := by decide +kernel
theorem dL_undone_225 : decode cL_undone 225 = .ok (.iconst 0, 1) := by decide +kernel
theorem dL_undone_226 : decode cL_undone 226 = .ok (.iconst 0, 1) := by decide +kernel
theorem dL_undone_227 : decode cL_undone 227 = .ok (.iconst 0, 1) := by decide +kernel
theorem dL_undone_228 : decode cL_undone 228 = .ok (.invokevirtual 184, 3) := by decide +kernel
theorem dL_undone_231 : decode cL_undone 231 = .ok (.iconst (-1), 1) := by decide +kernel
theorem dL_undone_232 : decode cL_undone 232 = .ok (.if_icmp .ne 47, 3) := by decide +kernel
theorem dL_undone_235 : decode cL_undone 235 = .ok (.aload_n 0, 1) := by decide +kernel
theorem dL_undone_236 : decode cL_undone 236 = .ok (.bipush 6, 2) := by decide +kernel
theorem dL_undone_238 : decode cL_undone 238 = .ok (.invokevirtual 269, 3) := by decide +kernel
theorem dL_undone_241 : decode cL_undone 241 = .ok (.iconst (-1), 1) := by decide +kernel
theorem dL_undone_242 : decode cL_undone 242 = .ok (.if_icmp .ne 37, 3) := by decide +kernel
theorem dL_undone_245 : decode cL_undone 245 = .ok (.aload_n 0, 1) := by decide +kernel
theorem dL_undone_246 : decode cL_undone 246 = .ok (.iconst 0, 1) := by decide +kernel
theorem dL_undone_247 : decode cL_undone 247 = .ok (.iconst 0, 1) := by decide +kernel
theorem dL_undone_248 : decode cL_undone 248 = .ok (.iconst 0, 1) := by decide +kernel
theorem dL_undone_249 : decode cL_undone 249 = .ok (.invokevirtual 215, 3) := by decide +kernel
theorem dL_undone_252 : decode cL_undone 252 = .ok (.iconst (-1), 1) := by decide +kernel
theorem dL_undone_253 : decode cL_undone 253 = .ok (.if_icmp .ne 26, 3) := by decide +kernel
theorem dL_undone_256 : decode cL_undone 256 = .ok (.aload_n 0, 1) := by decide +kernel
theorem dL_undone_257 : decode cL_undone 257 = .ok (.iload 5, 2) := by decide +kernel
theorem dL_undone_259 : decode cL_undone 259 = .ok (.invokevirtual 228, 3) := by decide +kernel
theorem dL_undone_262 : decode cL_undone 262 = .ok (.iconst (-1), 1) := by decide +kernel
theorem dL_undone_263 : decode cL_undone 263 = .ok (.if_icmp .ne 16, 3) := by decide +kernel
theorem dL_undone_266 : decode cL_undone 266 = .ok (.aload_n 0, 1) := by decide +kernel
theorem dL_undone_267 : decode cL_undone 267 = .ok (.iconst (-1), 1) := by decide +kernel
theorem dL_undone_268 : decode cL_undone 268 = .ok (.invokevirtual 272, 3) := by decide +kernel
theorem dL_undone_271 : decode cL_undone 271 = .ok (.iconst (-1), 1) := by decide +kernel
theorem dL_undone_272 : decode cL_undone 272 = .ok (.if_icmp .ne 7, 3) := by decide +kernel
theorem dL_undone_275 : decode cL_undone 275 = .ok (.iconst 1, 1) := by decide +kernel
theorem dL_undone_276 : decode cL_undone 276 = .ok (.goto 4, 3) := by decide +kernel
theorem dL_undone_279 : decode cL_undone 279 = .ok (.iconst 0, 1) := by decide +kernel
theorem dL_undone_280 : decode cL_undone 280 = .ok (.istore 6, 2) := by decide +kernel
theorem dL_undone_282 : decode cL_undone 282 = .ok (.aload_n 0, 1) := by decide +kernel
theorem dL_undone_283 : decode cL_undone 283 = .ok (.bipush 12, 2) := by decide +kernel
theorem dL_undone_285 : decode cL_undone 285 = .ok (.invokevirtual 103, 3) := by decide +kernel
theorem dL_undone_288 : decode cL_undone 288 = .ok (.istore 7, 2) := by decide +kernel
theorem dL_undone_290 : decode cL_undone 290 = .ok (.iload 6, 2) := by decide +kernel
theorem dL_undone_292 : decode cL_undone 292 = .ok (.ifCond .eq 23, 3) := by decide +kernel
theorem dL_undone_295 : decode cL_undone 295 = .ok (.iload 7, 2) := by decide +kernel
theorem dL_undone_297 : decode cL_undone 297 = .ok (.ifCond .le 18, 3) := by decide +kernel
theorem dL_undone_300 : decode cL_undone 300 = .ok (.aload_n 0, 1) := by decide +kernel
theorem dL_undone_301 : decode cL_undone 301 = .ok (.invokevirtual 225, 3) := by decide +kernel
theorem dL_undone_304 : decode cL_undone 304 = .ok (.iload 7, 2) := by decide +kernel
theorem dL_undone_306 : decode cL_undone 306 = .ok (.iconst 1, 1) := by decide +kernel
theorem dL_undone_307 : decode cL_undone 307 = .ok (.isub, 1) := by decide +kernel
theorem dL_undone_308 : decode cL_undone 308 = .ok (.if_icmp .ne 7, 3) := by decide +kernel
theorem dL_undone_311 : decode cL_undone 311 = .ok (.iconst 1, 1) := by decide +kernel
theorem dL_undone_312 : decode cL_undone 312 = .ok (.goto 4, 3) := by decide +kernel
theorem dL_undone_315 : decode cL_undone 315 = .ok (.iconst 0, 1) := by decide +kernel
theorem dL_undone_316 : decode cL_undone 316 = .ok (.istore 6, 2) := by decide +kernel
theorem dL_undone_318 : decode cL_undone 318 = .ok (.iload 7, 2) := by decide +kernel
theorem dL_undone_320 : decode cL_undone 320 = .ok (.iconst 1, 1) := by decide +kernel
theorem dL_undone_321 : decode cL_undone 321 = .ok (.if_icmp .le 32, 3) := by decide +kernel
theorem dL_undone_324 : decode cL_undone 324 = .ok (.iload 6, 2) := by decide +kernel
theorem dL_undone_326 : decode cL_undone 326 = .ok (.ifCond .eq 27, 3) := by decide +kernel
theorem dL_undone_329 : decode cL_undone 329 = .ok (.iinc 7 (-1), 3) := by decide +kernel
theorem dL_undone_332 : decode cL_undone 332 = .ok (.aload_n 0, 1) := by decide +kernel
theorem dL_undone_333 : decode cL_undone 333 = .ok (.invokevirtual 225, 3) := by decide +kernel
theorem dL_undone_336 : decode cL_undone 336 = .ok (.iload 7, 2) := by decide +kernel
theorem dL_undone_338 : decode cL_undone 338 = .ok (.iconst 1, 1) := by decide +kernel
theorem dL_undone_339 : decode cL_undone 339 = .ok (.isub, 1) := by decide +kernel
theorem dL_undone_340 : decode cL_undone 340 = .ok (.if_icmp .ne 7, 3) := by decide +kernel
theorem dL_undone_343 : decode cL_undone 343 = .ok (.iconst 1, 1) := by decide +kernel
theorem dL_undone_344 : decode cL_undone 344 = .ok (.goto 4, 3) := by decide +kernel
theorem dL_undone_347 : decode cL_undone 347 = .ok (.iconst 0, 1) := by decide +kernel
theorem dL_undone_348 : decode cL_undone 348 = .ok (.istore 6, 2) := by decide +kernel
theorem dL_undone_350 : decode cL_undone 350 = .ok (.goto (-32), 3) := by decide +kernel
theorem dL_undone_353 : decode cL_undone 353 = .ok (.iload 6, 2) := by decide +kernel
theorem dL_undone_355 : decode cL_undone 355 = .ok (.ifCond .eq 15, 3) := by decide +kernel
theorem dL_undone_358 : decode cL_undone 358 = .ok (.aload_n 0, 1) := by decide +kernel
theorem dL_undone_359 : decode cL_undone 359 = .ok (.invokevirtual 225, 3) := by decide +kernel
theorem dL_undone_362 : decode cL_undone 362 = .ok (.iconst (-1), 1) := by decide +kernel
theorem dL_undone_363 : decode cL_undone 363 = .ok (.if_icmp .ne 7, 3) := by decide +kernel
theorem dL_undone_366 : decode cL_undone 366 = .ok (.iconst 1, 1) := by decide +kernel
theorem dL_undone_367 : decode cL_undone 367 = .ok (.goto 4, 3) := by decide +kernel
theorem dL_undone_370 : decode cL_undone 370 = .ok (.iconst 0, 1) := by decide +kernel
theorem dL_undone_371 : decode cL_undone 371 = .ok (.istore 6, 2) := by decide +kernel
theorem dL_undone_373 : decode cL_undone 373 = .ok (.aload_n 0, 1) := by decide +kernel
theorem dL_undone_374 : decode cL_undone 374 = .ok (.iconst 0, 1) := by decide +kernel
theorem dL_undone_375 : decode cL_undone 375 = .ok (.invokevirtual 265, 3) := by decide +kernel
theorem dL_undone_378 : decode cL_undone 378 = .ok (.istore 8, 2) := by decide +kernel
theorem dL_undone_380 : decode cL_undone 380 = .ok (.new 9, 3) := by decide +kernel
theorem dL_undone_383 : decode cL_undone 383 = .ok (.dup, 1) := by decide +kernel
theorem dL_undone_384 : decode cL_undone 384 = .ok (.invokespecial 275, 3) := by decide +kernel
theorem dL_undone_387 : decode cL_undone 387 = .ok (.astore 9, 2) := by decide +kernel
theorem dL_undone_389 : decode cL_undone 389 = .ok (.iload 6, 2) := by decide +kernel
theorem dL_undone_391 : decode cL_undone 391 = .ok (.ifCond .eq 92, 3) := by decide +kernel
theorem dL_undone_394 : decode cL_undone 394 = .ok (.iload 8, 2) := by decide +kernel
theorem dL_undone_396 : decode cL_undone 396 = .ok (.iload 5, 2) := by decide +kernel
theorem dL_undone_398 : decode cL_undone 398 = .ok (.if_icmp .ne 85, 3) := by decide +kernel
theorem dL_undone_401 : decode cL_undone 401 = .ok (.aload_n 0, 1) := by decide +kernel
theorem dL_undone_402 : decode cL_undone 402 = .ok (.aload_n 2, 1) := by decide +kernel
theorem dL_undone_403 : decode cL_undone 403 = .ok (.iload 4, 2) := by decide +kernel
theorem dL_undone_405 : decode cL_undone 405 = .ok (.aload_n 3, 1) := by decide +kernel
theorem dL_undone_406 : decode cL_undone 406 = .ok (.invokestatic 218, 3) := by decide +kernel
theorem dL_undone_409 : decode cL_undone 409 = .ok (.ifCond .eq 74, 3) := by decide +kernel
theorem dL_undone_412 : decode cL_undone 412 = .ok (.aload 9, 2) := by decide +kernel
theorem dL_undone_414 : decode cL_undone 414 = .ok (.aload_n 0, 1) := by decide +kernel
theorem dL_undone_415 : decode cL_undone 415 = .ok (.iconst 0, 1) := by decide +kernel
theorem dL_undone_416 : decode cL_undone 416 = .ok (.invokestatic 276, 3) := by decide +kernel
theorem dL_undone_419 : decode cL_undone 419 = .ok (.invokestatic 280, 3) := by decide +kernel
theorem dL_undone_422 : decode cL_undone 422 = .ok (.ifCond .eq 61, 3) := by decide +kernel
theorem dL_undone_425 : decode cL_undone 425 = .ok (.aload 9, 2) := by decide +kernel
theorem dL_undone_427 : decode cL_undone 427 = .ok (.invokevirtual 46, 3) := by decide +kernel
theorem dL_undone_430 : decode cL_undone 430 = .ok (.aload_n 0, 1) := by decide +kernel
theorem dL_undone_431 : decode cL_undone 431 = .ok (.invokevirtual 46, 3) := by decide +kernel
theorem dL_undone_434 : decode cL_undone 434 = .ok (.if_icmp .ne 49, 3) := by decide +kernel
theorem dL_undone_437 : decode cL_undone 437 = .ok (.aload 9, 2) := by decide +kernel
theorem dL_undone_439 : decode cL_undone 439 = .ok (.invokevirtual 43, 3) := by decide +kernel
theorem dL_undone_442 : decode cL_undone 442 = .ok (.aload_n 0, 1) := by decide +kernel
theorem dL_undone_443 : decode cL_undone 443 = .ok (.invokevirtual 43, 3) := by decide +kernel
theorem dL_undone_446 : decode cL_undone 446 = .ok (.if_icmp .ne 37, 3) := by decide +kernel
theorem dL_undone_449 : decode cL_undone 449 = .ok (.aload 9, 2) := by decide +kernel
theorem dL_undone_451 : decode cL_undone 451 = .ok (.bipush 10, 2) := by decide +kernel
theorem dL_undone_453 : decode cL_undone 453 = .ok (.invokevirtual 103, 3) := by decide +kernel
theorem dL_undone_456 : decode cL_undone 456 = .ok (.aload_n 0, 1) := by decide +kernel
theorem dL_undone_457 : decode cL_undone 457 = .ok (.bipush 10, 2) := by decide +kernel
theorem dL_undone_459 : decode cL_undone 459 = .ok (.invokevirtual 103, 3) := by decide +kernel
theorem dL_undone_462 : decode cL_undone 462 = .ok (.if_icmp .ne 21, 3) := by decide +kernel
theorem dL_undone_465 : decode cL_undone 465 = .ok (.aload 9, 2) := by decide +kernel
theorem dL_undone_467 : decode cL_undone 467 = .ok (.iconst 5, 1) := by decide +kernel
theorem dL_undone_468 : decode cL_undone 468 = .ok (.invokevirtual 103, 3) := by decide +kernel
theorem dL_undone_471 : decode cL_undone 471 = .ok (.aload_n 0, 1) := by decide +kernel
theorem dL_undone_472 : decode cL_undone 472 = .ok (.iconst 5, 1) := by decide +kernel
theorem dL_undone_473 : decode cL_undone 473 = .ok (.invokevirtual 103, 3) := by decide +kernel
theorem dL_undone_476 : decode cL_undone 476 = .ok (.if_icmp .ne 7, 3) := by decide +kernel
theorem dL_undone_479 : decode cL_undone 479 = .ok (.iconst 1, 1) := by decide +kernel
theorem dL_undone_480 : decode cL_undone 480 = .ok (.goto 4, 3) := by decide +kernel
theorem dL_undone_483 : decode cL_undone 483 = .ok (.iconst 0, 1) := by decide +kernel
theorem dL_undone_484 : decode cL_undone 484 = .ok (.ireturn, 1) := by decide +kernel
theorem dL_law_0 : decode cL_law 0 = .ok (.bipush 8, 2) := by decide +kernel
theorem dL_law_2 : decode cL_law 2 = .ok (.newarray .int, 2) := by decide +kernel
theorem dL_law_4 : decode cL_law 4 = .ok (.astore_n 1, 1) := by decide +kernel
theorem dL_law_5 : decode cL_law 5 = .ok (.sipush 400, 3) := by decide +kernel
theorem dL_law_8 : decode cL_law 8 = .ok (.newarray .int, 2) := by decide +kernel
theorem dL_law_10 : decode cL_law 10 = .ok (.astore_n 2, 1) := by decide +kernel
theorem dL_law_11 : decode cL_law 11 = .ok (.sipush 400, 3) := by decide +kernel
theorem dL_law_14 : decode cL_law 14 = .ok (.newarray .int, 2) := by decide +kernel
theorem dL_law_16 : decode cL_law 16 = .ok (.astore_n 3, 1) := by decide +kernel
theorem dL_law_17 : decode cL_law 17 = .ok (.iconst 1, 1) := by decide +kernel
theorem dL_law_18 : decode cL_law 18 = .ok (.istore 4, 2) := by decide +kernel
theorem dL_law_20 : decode cL_law 20 = .ok (.iconst 0, 1) := by decide +kernel
theorem dL_law_21 : decode cL_law 21 = .ok (.istore 5, 2) := by decide +kernel
theorem dL_law_23 : decode cL_law 23 = .ok (.iload 5, 2) := by decide +kernel
theorem dL_law_25 : decode cL_law 25 = .ok (.iconst 2, 1) := by decide +kernel
theorem dL_law_26 : decode cL_law 26 = .ok (.if_icmp .ge 167, 3) := by decide +kernel
theorem dL_law_29 : decode cL_law 29 = .ok (.iload 4, 2) := by decide +kernel
theorem dL_law_31 : decode cL_law 31 = .ok (.ifCond .eq 162, 3) := by decide +kernel
theorem dL_law_34 : decode cL_law 34 = .ok (.aload_n 1, 1) := by decide +kernel
theorem dL_law_35 : decode cL_law 35 = .ok (.bipush 7, 2) := by decide +kernel
theorem dL_law_37 : decode cL_law 37 = .ok (.iload 5, 2) := by decide +kernel
theorem dL_law_39 : decode cL_law 39 = .ok (.aload_n 0, 1) := by decide +kernel
theorem dL_law_40 : decode cL_law 40 = .ok (.arraylength, 1) := by decide +kernel
theorem dL_law_41 : decode cL_law 41 = .ok (.if_icmp .ge 10, 3) := by decide +kernel
theorem dL_law_44 : decode cL_law 44 = .ok (.aload_n 0, 1) := by decide +kernel
theorem dL_law_45 : decode cL_law 45 = .ok (.iload 5, 2) := by decide +kernel
theorem dL_law_47 : decode cL_law 47 = .ok (.iaload, 1) := by decide +kernel
theorem dL_law_48 : decode cL_law 48 = .ok (.goto 8, 3) := by decide +kernel
theorem dL_law_51 : decode cL_law 51 = .ok (.bipush 37, 2) := by decide +kernel
theorem dL_law_53 : decode cL_law 53 = .ok (.iload 5, 2) := by decide +kernel
theorem dL_law_55 : decode cL_law 55 = .ok (.imul, 1) := by decide +kernel
theorem dL_law_56 : decode cL_law 56 = .ok (.iastore, 1) := by decide +kernel
theorem dL_law_57 : decode cL_law 57 = .ok (.new 9, 3) := by decide +kernel
theorem dL_law_60 : decode cL_law 60 = .ok (.dup, 1) := by decide +kernel
theorem dL_law_61 : decode cL_law 61 = .ok (.invokespecial 275, 3) := by decide +kernel
theorem dL_law_64 : decode cL_law 64 = .ok (.astore 6, 2) := by decide +kernel
theorem dL_law_66 : decode cL_law 66 = .ok (.aload 6, 2) := by decide +kernel
theorem dL_law_68 : decode cL_law 68 = .ok (.aload_n 1, 1) := by decide +kernel
theorem dL_law_69 : decode cL_law 69 = .ok (.invokestatic 284, 3) := by decide +kernel
theorem dL_law_72 : decode cL_law 72 = .ok (.invokestatic 280, 3) := by decide +kernel
theorem dL_law_75 : decode cL_law 75 = .ok (.ifCond .eq 15, 3) := by decide +kernel
theorem dL_law_78 : decode cL_law 78 = .ok (.aload 6, 2) := by decide +kernel
theorem dL_law_80 : decode cL_law 80 = .ok (.invokestatic 288, 3) := by decide +kernel
theorem dL_law_83 : decode cL_law 83 = .ok (.ifCond .eq 7, 3) := by decide +kernel
theorem dL_law_86 : decode cL_law 86 = .ok (.iconst 1, 1) := by decide +kernel
theorem dL_law_87 : decode cL_law 87 = .ok (.goto 4, 3) := by decide +kernel
theorem dL_law_90 : decode cL_law 90 = .ok (.iconst 0, 1) := by decide +kernel
theorem dL_law_91 : decode cL_law 91 = .ok (.istore 4, 2) := by decide +kernel
theorem dL_law_93 : decode cL_law 93 = .ok (.iconst 0, 1) := by decide +kernel
theorem dL_law_94 : decode cL_law 94 = .ok (.istore 7, 2) := by decide +kernel
theorem dL_law_96 : decode cL_law 96 = .ok (.iload 7, 2) := by decide +kernel
theorem dL_law_98 : decode cL_law 98 = .ok (.bipush 24, 2) := by decide +kernel
theorem dL_law_100 : decode cL_law 100 = .ok (.if_icmp .ge 45, 3) := by decide +kernel
theorem dL_law_103 : decode cL_law 103 = .ok (.iload 4, 2) := by decide +kernel
theorem dL_law_105 : decode cL_law 105 = .ok (.ifCond .eq 40, 3) := by decide +kernel
theorem dL_law_108 : decode cL_law 108 = .ok (.aload 6, 2) := by decide +kernel
theorem dL_law_110 : decode cL_law 110 = .ok (.aload_n 1, 1) := by decide +kernel
theorem dL_law_111 : decode cL_law 111 = .ok (.invokestatic 262, 3) := by decide +kernel
theorem dL_law_114 : decode cL_law 114 = .ok (.istore 8, 2) := by decide +kernel
theorem dL_law_116 : decode cL_law 116 = .ok (.iload 7, 2) := by decide +kernel
theorem dL_law_118 : decode cL_law 118 = .ok (.bipush 8, 2) := by decide +kernel
theorem dL_law_120 : decode cL_law 120 = .ok (.irem, 1) := by decide +kernel
theorem dL_law_121 : decode cL_law 121 = .ok (.ifCond .gt 11, 3) := by decide +kernel
theorem dL_law_124 : decode cL_law 124 = .ok (.aload 6, 2) := by decide +kernel
theorem dL_law_126 : decode cL_law 126 = .ok (.invokestatic 288, 3) := by decide +kernel
theorem dL_law_129 : decode cL_law 129 = .ok (.ifCond .eq 7, 3) := by decide +kernel
theorem dL_law_132 : decode cL_law 132 = .ok (.iconst 1, 1) := by decide +kernel
theorem dL_law_133 : decode cL_law 133 = .ok (.goto 4, 3) := by decide +kernel
theorem dL_law_136 : decode cL_law 136 = .ok (.iconst 0, 1) := by decide +kernel
theorem dL_law_137 : decode cL_law 137 = .ok (.istore 4, 2) := by decide +kernel
theorem dL_law_139 : decode cL_law 139 = .ok (.iinc 7 1, 3) := by decide +kernel
theorem dL_law_142 : decode cL_law 142 = .ok (.goto (-46), 3) := by decide +kernel
theorem dL_law_145 : decode cL_law 145 = .ok (.iload 4, 2) := by decide +kernel
theorem dL_law_147 : decode cL_law 147 = .ok (.ifCond .eq 37, 3) := by decide +kernel
theorem dL_law_150 : decode cL_law 150 = .ok (.aload 6, 2) := by decide +kernel
theorem dL_law_152 : decode cL_law 152 = .ok (.invokestatic 288, 3) := by decide +kernel
theorem dL_law_155 : decode cL_law 155 = .ok (.ifCond .eq 29, 3) := by decide +kernel
theorem dL_law_158 : decode cL_law 158 = .ok (.aload 6, 2) := by decide +kernel
theorem dL_law_160 : decode cL_law 160 = .ok (.aload_n 1, 1) := by decide +kernel
theorem dL_law_161 : decode cL_law 161 = .ok (.aload_n 2, 1) := by decide +kernel
theorem dL_law_162 : decode cL_law 162 = .ok (.aload_n 3, 1) := by decide +kernel
theorem dL_law_163 : decode cL_law 163 = .ok (.invokestatic 292, 3) := by decide +kernel
theorem dL_law_166 : decode cL_law 166 = .ok (.ifCond .eq 18, 3) := by decide +kernel
theorem dL_law_169 : decode cL_law 169 = .ok (.aload 6, 2) := by decide +kernel
theorem dL_law_171 : decode cL_law 171 = .ok (.aload_n 1, 1) := by decide +kernel
theorem dL_law_172 : decode cL_law 172 = .ok (.aload_n 2, 1) := by decide +kernel
theorem dL_law_173 : decode cL_law 173 = .ok (.aload_n 3, 1) := by decide +kernel
theorem dL_law_174 : decode cL_law 174 = .ok (.invokestatic 295, 3) := by decide +kernel
theorem dL_law_177 : decode cL_law 177 = .ok (.ifCond .eq 7, 3) := by decide +kernel
theorem dL_law_180 : decode cL_law 180 = .ok (.iconst 1, 1) := by decide +kernel
theorem dL_law_181 : decode cL_law 181 = .ok (.goto 4, 3) := by decide +kernel
theorem dL_law_184 : decode cL_law 184 = .ok (.iconst 0, 1) := by decide +kernel
theorem dL_law_185 : decode cL_law 185 = .ok (.istore 4, 2) := by decide +kernel
theorem dL_law_187 : decode cL_law 187 = .ok (.iinc 5 1, 3) := by decide +kernel
theorem dL_law_190 : decode cL_law 190 = .ok (.goto (-167), 3) := by decide +kernel
theorem dL_law_193 : decode cL_law 193 = .ok (.iload 4, 2) := by decide +kernel
theorem dL_law_195 : decode cL_law 195 = .ok (.ireturn, 1) := by decide +kernel
end
section
/-! THE ABSTRACT MACHINE: ints are whole numbers in range, references are small numbers (below 1000: cells, by names that a method gives them), memory is a shape and a function of numbers. -/
/-- the classes of the claim, in the order of the rows -/
abbrev z_Cl : List vw_C := [(RX0, TX0, 3), (RX1, TX1, 3), (RX2, TX2, 7), (RX3, TX3, 12), (RX4, TX4, 6), (RX5, TX5, 2), (RX6, TX6, 2), (RX7, TX7, 2), (RX8, TX8, 9), (RJ0, TJ0, 4), (RJ4, TJ4, 4)]
abbrev z_V : Type := Int ⊕ (Nat ⊕ (UInt32 ⊕ (UInt64 ⊕ Option Nat)))
abbrev z_i (x : Int) : z_V := Sum.inl x
abbrev z_r (a : Nat) : z_V := Sum.inr (Sum.inl a)
abbrev z_f (x : UInt32) : z_V := Sum.inr (Sum.inr (Sum.inl x))
abbrev z_d (x : UInt64) : z_V := Sum.inr (Sum.inr (Sum.inr (Sum.inl x)))
abbrev z_x (o : Option Nat) : z_V := Sum.inr (Sum.inr (Sum.inr (Sum.inr o)))
/-- an object (its class's number, its fields: none for a number, some r for a reference), a row of numbers (its kind, its length), a row of references -/
abbrev z_C : Type := (Nat × List (Option (Option Nat))) ⊕ ((Nat × Nat) ⊕ List (Option Nat))
abbrev z_S : Type := List z_C × (Nat → Int → Int)
abbrev z_M : Type := MethodName × (ByteArray × (Nat × (Option FieldType × Room)))
/-- the classes' numbers, arrays' classes, which addresses are one's own, names' addresses, the script -/
abbrev z_G : Type := va_G × ((Nat → ClassId) × ((Nat → Prop) × ((Nat → Nat) × (Nat × (Nat → Int32)))))
def z_ad (G : z_G) (a : Nat) : Nat := G.2.2.2.1 a
/-- the same with other addresses -/
def z_wa (G : z_G) (f : Nat → Nat) : z_G := (G.1, G.2.1, G.2.2.1, f, G.2.2.2.2)
def z_cv (G : z_G) : z_V → Value
  | .inl x => .int (Int32.ofInt x)
  | .inr (.inl a) => .ref (z_ad G a)
  | .inr (.inr (.inl x)) => .float x
  | .inr (.inr (.inr (.inl x))) => .double x
  | .inr (.inr (.inr (.inr o))) => va_rf o
abbrev z_R (x : Int) : Prop := -2147483648 ≤ x ∧ x ≤ 2147483647
def z_Rv : z_V → Prop
  | .inl x => z_R x
  | _ => True
def z_fld (G : z_G) (f : Int → Int) (k : Nat) : Option (Option Nat) → Value
  | none => .int (Int32.ofInt (f (k : Int)))
  | some none => .null
  | some (some r) => .ref (z_ad G r)
def z_cell (G : z_G) (f : Int → Int) : z_C → va_E
  | .inl (ci, fl) => .inr (ci, fl.mapIdx (z_fld G f))
  | .inr (.inl (kd, n)) => .inl (G.2.1 kd, n, .inl (fun j => Int32.ofInt (f (j : Int))))
  | .inr (.inr rs) => .inl (G.2.1 3, rs.length, .inr (.inr (.inr (.inr (fun j => (rs.getD j none).map (z_ad G))))))
def z_ws (G : z_G) (σ : z_S) : va_W := σ.1.mapIdx (fun i c => (z_ad G i, z_cell G (σ.2 i) c))
theorem z_ws_get {G : z_G} {σ : z_S} {a : Nat} {c : z_C} (h : σ.1[a]? = some c) : (z_ws G σ)[a]? = some (z_ad G a, z_cell G (σ.2 a) c) := by simp [z_ws, h]
theorem z_ws_len (G : z_G) (σ : z_S) : (z_ws G σ).length = σ.1.length := by simp [z_ws]
/-- memory with another cell -/
def z_u (σ : z_S) (a : Nat) (c : z_C) (f : Int → Int) : z_S := (σ.1.set a c, fun b => if b = a then f else σ.2 b)
/-- memory with another number -/
def z_w (σ : z_S) (a : Nat) (i x : Int) : z_S := (σ.1, fun b j => if b = a ∧ j = i then x else σ.2 b j)
/-- memory with a copied stretch -/
def z_cp (σ : z_S) (a0 : Nat) (sp : Int) (a : Nat) (dp n : Int) : z_S := (σ.1, fun b j => if b = a ∧ dp ≤ j ∧ j < dp + n then σ.2 a0 (sp + (j - dp)) else σ.2 b j)
theorem z_ws_set {G : z_G} {σ : z_S} {a : Nat} {c0 : z_C} (h : σ.1[a]? = some c0) (c : z_C) (f : Int → Int) : (z_ws G σ).set a (z_ad G a, z_cell G f c) = z_ws G (z_u σ a c f) := by
  apply List.ext_getElem?
  intro i
  have hl := (List.getElem?_eq_some_iff.mp h).1
  by_cases hi : i = a
  · subst hi
    rw [List.getElem?_set_self (by rw [z_ws_len]; exact hl)]
    simp [z_ws, z_u, hl]
  · rw [List.getElem?_set_ne (Ne.symm hi)]
    simp only [z_ws, z_u, List.getElem?_mapIdx, List.getElem?_set_ne (Ne.symm hi), if_neg hi]
theorem z_u_self {σ : z_S} {a : Nat} {c : z_C} (h : σ.1[a]? = some c) (f : Int → Int) : z_u σ a c f = (σ.1, fun b => if b = a then f else σ.2 b) := by
  obtain ⟨hl, he⟩ := List.getElem?_eq_some_iff.mp h
  simp only [z_u, ← he, List.set_getElem_self]
theorem z_w_eq {σ : z_S} {a : Nat} {c : z_C} (h : σ.1[a]? = some c) (i x : Int) : z_u σ a c (fun j => if j = i then x else σ.2 a j) = z_w σ a i x := by
  rw [z_u_self h, z_w]
  congr 1
  funext b j
  by_cases hb : b = a
  · subst hb; by_cases hj : j = i <;> simp [hj]
  · simp [hb]
theorem z_cp_eq {σ : z_S} {a : Nat} {c : z_C} (h : σ.1[a]? = some c) (a0 : Nat) (sp dp n : Int) : z_u σ a c (fun j => if dp ≤ j ∧ j < dp + n then σ.2 a0 (sp + (j - dp)) else σ.2 a j) = z_cp σ a0 sp a dp n := by
  rw [z_u_self h, z_cp]
  congr 1
  funext b j
  by_cases hb : b = a
  · subst hb; simp
  · simp [hb]
/-- the tables' words that a callee may be handed -/
def z_tb : List Cond := lw_tbl.filter goodWord
theorem z_w1 {w : Cond} (i : Nat) (h : lw_tbl[i]? = some w) (g : goodWord w = true) : w ∈ z_tb := List.mem_filter.mpr ⟨List.mem_of_getElem? h, g⟩
theorem z_tb_good : ∀ w ∈ z_tb, goodWord w = true := fun _ h => (List.mem_filter.mp h).2
/-- links to nest mates' members -/
def z_nst : Cond → Bool
  | .fieldLinkNest .. => true
  | .methodLinkNest .. => true
  | _ => false
def z_tn : List Cond := lw_tbl.filter z_nst
theorem z_w2 {w : Cond} (i : Nat) (h : lw_tbl[i]? = some w) (g : z_nst w = true) : w ∈ z_tn := List.mem_filter.mpr ⟨List.mem_of_getElem? h, g⟩
theorem z_nstT {w : Cond} (h : w ∈ z_tn) : w.onTables = true := by
  have h1 := (List.mem_filter.mp h).2
  cases w <;> first | rfl | cases h1
theorem z_nstW {w : Cond} (h : w ∈ z_tn) {s U : State} (hW : s.WarmedH U.vm) (hZ : va_Nw w s) : va_Nw w U := by
  have h1 := (List.mem_filter.mp h).2
  cases w <;> first | exact va_Nw.warmF hW hZ | exact va_Nw.warmM hW hZ | cases h1
def z_tys (G : z_G) : List (ClassId × FieldType) := [(G.2.1 0, .int), (G.2.1 1, .boolean), (G.2.1 2, .byte), (G.2.1 3, .object "TimeGaps$Plan")]
/-- String constants: owner, entry, text -/
def z_sl : List (String × Nat × String) := [("TimeGaps$Plan", 60, "start"), ("TimeGaps$SetupReader", 103, "most"), ("TimeGaps$SetupReader", 105, "least"), ("TimeGaps$SetupReader", 107, "end"), ("TimeGaps$SetupReader", 141, "off"), ("TimeGaps$SetupReader", 49, "event"), ("TimeGaps$SetupReader", 62, "gap"), ("TimeGaps$SetupReader", 67, "pin"), ("TimeGaps$Tape", 27, "end"), ("TimeGaps$Tape", 33, "event"), ("TimeGaps$Tape", 35, "gap"), ("TimeGaps$Tape", 37, "start"), ("TimeGaps$Tape", 39, "most"), ("TimeGaps$Tape", 41, "least"), ("TimeGaps$Tape", 43, "off"), ("TimeGaps$Tape", 45, "pin"), ("TimeGaps$Text", 48, "end "), ("TimeGaps$Text", 57, "event "), ("TimeGaps$Text", 65, "pin "), ("TimeGaps$Text", 70, "gap "), ("TimeGaps$Text", 81, " most "), ("TimeGaps$Text", 83, " least "), ("TimeGaps$Text", 92, " off"), ("TimeGapsLaw", 66, "end "), ("TimeGapsLaw", 74, ";"), ("TimeGapsLaw", 79, "event "), ("TimeGapsLaw", 87, "gap "), ("TimeGapsLaw", 89, "start"), ("TimeGapsLaw", 91, ""), ("TimeGapsLaw", 93, " most "), ("TimeGapsLaw", 95, " least "), ("TimeGapsLaw", 97, " off;"), ("TimeGapsLaw", 99, "pin "), ("TimeGapsLaw", 101, " "), ("TimeGapsLaw", 140, "n")]
def z_len : List Nat := z_sl.map (fun q => q.2.2.length)
def z_byt : List (List Int32) := z_sl.map (fun q => q.2.2.toList.map (fun ch => Int32.ofNat ch.toNat))
/-- what was there before: the script, String constants, statics -/
def z_O (G : z_G) (U : State) (H : Heap) : Prop :=
  (va_X (z_ad G 1000) G.2.2.2.2.1 G.2.2.2.2.2 U H ∧ ¬ G.2.2.1 (z_ad G 1000)) ∧
  (∀ i : Nat, i < 35 → va_O "java/lang/String" (z_ad G (1001 + i)) G.2.2.1 U H ∧ va_OF "java/lang/String" "coder" "B" (.int 0) (z_ad G (1001 + i)) G.2.2.1 U H ∧ va_OF "java/lang/String" "value" "[B" (.ref (z_ad G (1101 + i))) (z_ad G (1001 + i)) G.2.2.1 U H ∧ va_T .byte (z_ad G (1101 + i)) (z_len.getD i 0) (fun j => .int ((z_byt.getD i []).getD j 0)) G.2.2.1 U H) ∧
  (∀ (i : Nat) (q : String × Nat × String), z_sl[i]? = some q → vk_R q.1 q.2.1 q.2.2 (z_ad G (1001 + i)) U) ∧
  va_Z "java/lang/String" "COMPACT_STRINGS" "Z" (.int 1) G.2.2.1 U H ∧
  (va_Zq "jdk/internal/util/Preconditions" "SIOOBE_FORMATTER" "Ljava/util/function/BiFunction;" G.2.2.1 U H ∧ va_AO "TimeGaps$Plan" U) ∧
  (∀ w ∈ z_tn, va_Nw w U) ∧
  (va_Z "java/lang/Integer" "DigitOnes" "[B" (.ref (z_ad G 1201)) G.2.2.1 U H ∧ va_T .byte (z_ad G 1201) 100 (fun j => .int (Int32.ofNat (48 + j % 10))) G.2.2.1 U H) ∧
  (va_Z "java/lang/Integer" "DigitTens" "[B" (.ref (z_ad G 1202)) G.2.2.1 U H ∧ va_T .byte (z_ad G 1202) 100 (fun j => .int (Int32.ofNat (48 + j / 10))) G.2.2.1 U H)
theorem z_O.moved {G : z_G} {u U : State} {H : Heap} (hW : u.WarmedH U.vm) (h : z_O G u H) : z_O G U H := by
  obtain ⟨⟨h1, h2⟩, h3, h4, h5, h6, h7, h8, h9⟩ := h
  exact ⟨⟨h1.moved hW.alike, h2⟩, fun i hi => ⟨va_O.moved hW.alike (h3 i hi).1, va_OF.moved hW.alike (h3 i hi).2.1, va_OF.moved hW.alike (h3 i hi).2.2.1, va_T.moved hW.alike (h3 i hi).2.2.2⟩, fun i q hq => (h4 i q hq).warm hW, va_Z.moved hW.alike h5, ⟨va_Zq.moved hW.alike h6.1, va_AO.moved hW.alike h6.2⟩, fun w hw => z_nstW hw hW (h7 w hw), ⟨va_Z.moved hW.alike h8.1, va_T.moved hW.alike h8.2⟩, va_Z.moved hW.alike h9.1, va_T.moved hW.alike h9.2⟩
theorem z_O.same {G : z_G} {u U : State} {H : Heap} (hv : U.vm = u.vm) (h : z_O G u H) : z_O G U H := by
  have hA : u.vm.Alike U.vm := by rw [hv]; exact Vm.Alike.refl u.vm
  obtain ⟨⟨h1, h2⟩, h3, h4, h5, h6, h7, h8, h9⟩ := h
  exact ⟨⟨h1.moved hA, h2⟩, fun i hi => ⟨va_O.moved hA (h3 i hi).1, va_OF.moved hA (h3 i hi).2.1, va_OF.moved hA (h3 i hi).2.2.1, va_T.moved hA (h3 i hi).2.2.2⟩, fun i q hq => (h4 i q hq).same hv, va_Z.moved hA h5, ⟨va_Zq.moved hA h6.1, va_AO.moved hA h6.2⟩, fun w hw => (h7 w hw).same (z_nstT hw) hv.symm, ⟨va_Z.moved hA h8.1, va_T.moved hA h8.2⟩, va_Z.moved hA h9.1, va_T.moved hA h9.2⟩
theorem z_O.kept {G : z_G} {U : State} {H H1 : Heap} (h : z_O G U H) (hq : ∀ a : Nat, a < H.size → ¬ G.2.2.1 a → H1[a]? = H[a]?) : z_O G U H1 := by
  obtain ⟨⟨h1, h2⟩, h3, h4, h5, h6, h7, h8, h9⟩ := h
  refine ⟨⟨h1.kept (hq _ ?_ h2), h2⟩, fun i hi => ⟨(h3 i hi).1.kept hq, (h3 i hi).2.1.kept hq, (h3 i hi).2.2.1.kept hq, (h3 i hi).2.2.2.kept hq⟩, h4, h5.kept hq, ⟨h6.1.kept hq, h6.2⟩, h7, ⟨h8.1.kept hq, h8.2.kept hq⟩, h9.1.kept hq, h9.2.kept hq⟩
  obtain ⟨scr, e1, -⟩ := h1
  exact (Array.getElem?_eq_some_iff.mp e1).1
/-- the memory lies in the heap -/
def z_P0 (G : z_G) (σ : z_S) (H : Heap) : Prop :=
  va_P G.1 z_Cl (z_ws G σ) H ∧ σ.1.length ≤ 1000 ∧ (∀ (a : Nat) (i : Int), z_R (σ.2 a i)) ∧ (∀ j : Nat, j < G.2.2.2.2.1 → σ.2 1000 (j : Int) = (G.2.2.2.2.2 j).toInt) ∧ σ.2 1001 0 = (G.2.2.2.2.1 : Int) ∧ (∀ i : Nat, i < σ.1.length → G.2.2.1 (z_ad G i)) ∧ (∀ i j : Nat, i < σ.1.length → j < σ.1.length → z_ad G i = z_ad G j → i = j)
def z_P (G : z_G) (σ : z_S) (s : State) (H : Heap) (locs : List Loc) : Prop := z_P0 G σ H ∧ va_S G.2.2.1 s.heap H locs
theorem z_D {G : z_G} {σ : z_S} {H : Heap} (hP : z_P0 G σ H) : va_D G.2.2.1 (z_ws G σ) := by
  have key : ∀ (k : Nat) (q : Nat × va_E), (z_ws G σ)[k]? = some q → k < σ.1.length ∧ q.1 = z_ad G k := by
    intro k q h
    simp only [z_ws, List.getElem?_mapIdx, Option.map_eq_some_iff] at h
    obtain ⟨c, hc, rfl⟩ := h
    exact ⟨(List.getElem?_eq_some_iff.mp hc).1, rfl⟩
  refine ⟨fun i j p q hi hj h => ?_, fun k q h => ?_⟩
  · have h1 := key i p hi
    have h2 := key j q hj
    exact hP.2.2.2.2.2.2 i j h1.1 h2.1 (by rw [← h1.2, ← h2.2]; exact h)
  · have h1 := key k q h
    rw [h1.2]
    exact hP.2.2.2.2.2.1 k h1.1

/-! a method's activation; n0: how many cells there were at its entry -/
def z_X (G : z_G) (M : z_M) (n0 : Nat) (p : Program) (s : State) (m : MethodId) (args : Array Value) (meth : Method) (c : Code) : Prop :=
  p.tables.exec = Jvm.exec ∧ c.code = M.2.1 ∧ meth.sig.returnType = M.2.2.2.1 ∧ c.maxLocals = M.2.2.1 ∧ s.vm.findClass M.1.cls = some m.cls ∧ (∀ w ∈ z_tb, w.before args s = true) ∧ meth.locks = false ∧ (M.1.name = "<init>" → meth.name = "<init>") ∧ va_K G.1 z_Cl (z_tys G) s ∧ z_O G s s.heap ∧ ∀ q : Nat, s.heap.size ≤ q → G.2.2.1 q
/-- the same but for addresses of names that are no entry's -/
def z_ag (c0 n0 : Nat) (G G' : z_G) : Prop := ∃ f : Nat → Nat, G' = z_wa G f ∧ (∀ a : Nat, (a < n0 ∨ 1000 ≤ a) → f a = z_ad G a) ∧ (c0 = 0 → G' = G)
theorem z_ag.rf (c0 n0 : Nat) (G : z_G) : z_ag c0 n0 G G := ⟨z_ad G, rfl, fun _ _ => rfl, fun _ => rfl⟩
/-- how a value is returned -/
def z_rk (ret : Option FieldType) (v : Option z_V) (ins : Instr) : Prop := match v with
  | none => ret = none ∧ ins = .return_
  | some (.inl x) => ins = .ireturn ∧ (ret = some .int ∨ (ret = some .boolean ∧ 0 ≤ x ∧ x ≤ 1) ∨ (ret = some .char ∧ 0 ≤ x ∧ x ≤ 65535) ∨ (ret = some .byte ∧ -128 ≤ x ∧ x ≤ 127))
  | some (.inr (.inl _)) => ins = .areturn ∧ ∃ t : FieldType, ret = some t ∧ ((∃ n, t = .object n) ∨ ∃ u, t = .array u)
  | some (.inr (.inr (.inl _))) => ins = .freturn ∧ ret = some .float
  | some (.inr (.inr (.inr (.inl _)))) => ins = .dreturn ∧ ret = some .double
  | _ => False
def z_Z (G : z_G) (M : z_M) (n0 : Nat) (p : Program) (l : Launch) (e : Env) (s : State) (m : MethodId) (args : Array Value) (below : List Frame) (meth : Method) (c : Code) (Z : State → Prop) (Q : Option z_V → z_S → Prop) : Prop :=
  ∀ (G' : z_G) (v : Option z_V) (σ' : z_S) (H' : Heap) (locs' : List Loc) (z' pc : Nat) (ls' : Array Slot) (ins : Instr), z_ag M.2.2.2.2.cells n0 G G' → Q v σ' → z_P G' σ' s H' locs' → (∀ x, v = some x → z_Rv x) → n0 ≤ σ'.1.length → z' ≤ M.2.2.2.2.cells ∧ z' ≤ M.2.2.2.2.slots → z_rk M.2.2.2.1 v ins → decode M.2.1 pc = .ok (ins, 1) →
    W p l e M.2.2.2.2 s m args below meth c H' locs' z' z' Z (F0 m pc ls' (v.toList.map (z_cv G')))
def z_lo (G : z_G) (L : List (Nat × z_V)) : List (Nat × Value) := L.map (fun q => (q.1, z_cv G q.2))
/-- FROM THIS POINT of the method, in any activation of it whose heap holds the memory, the method returns, with Q of the answer and of the memory behind it; nz: the cells at its entry, a bound of cells and slots made since -/
def z_Sem (M : z_M) (nz : Nat × Nat) (pc : Nat) (L : List (Nat × z_V)) (st : List z_V) (σ : z_S) (Q : Option z_V → z_S → Prop) : Prop :=
  ∀ (G : z_G) (p : Program) (l : Launch) (e : Env) (s : State) (m : MethodId) (args : Array Value) (below : List Frame) (meth : Method) (c : Code) (Z : State → Prop) (H : Heap) (locs : List Loc) (ls : Array Slot),
    z_X G M nz.1 p s m args meth c → z_Z G M nz.1 p l e s m args below meth c Z Q → z_P G σ s H locs → (∀ q ∈ L, z_Rv q.2) → (∀ q ∈ st, z_Rv q) → lv_has ls M.2.2.1 (z_lo G L) → nz.1 ≤ σ.1.length ∧ nz.2 ≤ M.2.2.2.2.cells ∧ nz.2 ≤ M.2.2.2.2.slots →
    W p l e M.2.2.2.2 s m args below meth c H locs nz.2 nz.2 Z (F0 m pc ls (st.map (z_cv G)))
end
section
theorem z_pure {M : z_M} {nz : Nat × Nat} {pc pc' : Nat} {L L' : List (Nat × z_V)} {st st' : List z_V} {σ : z_S} {Q : Option z_V → z_S → Prop}
    (h : ∀ (G : z_G) (p : Program) (l : Launch) (e : Env) (s : State) (m : MethodId) (args : Array Value) (below : List Frame) (meth : Method) (c : Code) (Z : State → Prop) (H : Heap) (locs : List Loc) (ls : Array Slot), z_X G M nz.1 p s m args meth c → z_P G σ s H locs → (∀ q ∈ L, z_Rv q.2) → (∀ q ∈ st, z_Rv q) → lv_has ls M.2.2.1 (z_lo G L) →
      (∀ ls' : Array Slot, lv_has ls' M.2.2.1 (z_lo G L') → W p l e M.2.2.2.2 s m args below meth c H locs nz.2 nz.2 Z (F0 m pc' ls' (st'.map (z_cv G)))) → W p l e M.2.2.2.2 s m args below meth c H locs nz.2 nz.2 Z (F0 m pc ls (st.map (z_cv G))))
    (hL' : (∀ q ∈ L, z_Rv q.2) → (∀ q ∈ st, z_Rv q) → ∀ q ∈ L', z_Rv q.2) (hS' : (∀ q ∈ L, z_Rv q.2) → (∀ q ∈ st, z_Rv q) → ∀ q ∈ st', z_Rv q)
    (k : z_Sem M nz pc' L' st' σ Q) : z_Sem M nz pc L st σ Q := by
  intro G p l e s m args below meth c Z H locs ls hX hZ hP hL hS hl hc
  exact h G p l e s m args below meth c Z H locs ls hX hP hL hS hl (fun ls' hl' => k G p l e s m args below meth c Z H locs ls' hX hZ hP (hL' hL hS) (hS' hL hS) hl' hc)
/-- fewer locals -/
theorem z_sub {M : z_M} {nz : Nat × Nat} {pc : Nat} {L L' : List (Nat × z_V)} {st : List z_V} {σ : z_S} {Q : Option z_V → z_S → Prop} (ks : List Nat) (h : ks.filterMap (fun k => L[k]?) = L') (k : z_Sem M nz pc L' st σ Q) : z_Sem M nz pc L st σ Q := by
  subst h
  have hm : ∀ q ∈ ks.filterMap (fun k => L[k]?), q ∈ L := by
    intro q hq
    obtain ⟨i, -, hi⟩ := List.mem_filterMap.mp hq
    exact List.mem_of_getElem? hi
  refine z_pure ?_ ?_ ?_ k
  · intro G p l e s m args below meth c Z H locs ls hX hP hL hS hl kk
    refine kk ls ⟨hl.1, hl.2.1, ?_⟩
    intro q hq
    simp only [z_lo, List.mem_map] at hq
    obtain ⟨r, hr, rfl⟩ := hq
    exact hl.2.2 _ (List.mem_map.mpr ⟨r, hm r hr, rfl⟩)
  · exact fun h1 _ q hq => h1 q (hm q hq)
  · exact fun _ h2 => h2
theorem z_toInt {x : Int} (h : z_R x) : (Int32.ofInt x).toInt = x := Int32.toInt_ofInt_of_le (by have := h.1; simpa using this) (by have := h.2; omega)
theorem z_clamp {x : Int} (h : z_R x) : (Int32.ofInt x).toNatClampNeg = x.toNat := by
  show (Int32.ofInt x).toInt.toNat = _
  rw [z_toInt h]
theorem z_lt {x y : Int} (hx : z_R x) (hy : z_R y) : Int32.ofInt x < Int32.ofInt y ↔ x < y := by rw [Int32.lt_iff_toInt_lt, z_toInt hx, z_toInt hy]
theorem z_le {x y : Int} (hx : z_R x) (hy : z_R y) : Int32.ofInt x ≤ Int32.ofInt y ↔ x ≤ y := by rw [Int32.le_iff_toInt_le, z_toInt hx, z_toInt hy]
theorem z_eq {x y : Int} (hx : z_R x) (hy : z_R y) : Int32.ofInt x = Int32.ofInt y ↔ x = y := by rw [← Int32.toInt_inj, z_toInt hx, z_toInt hy]
theorem z_zero : z_R 0 := by constructor <;> decide
theorem z_of0 : (0 : Int32) = Int32.ofInt 0 := by decide
theorem z_in {x : Int} {n : Nat} (h : z_R x) (h0 : 0 ≤ x) (h1 : x < (n : Int)) : vp_in (Int32.ofInt x) n := by
  unfold vp_in
  rw [z_clamp h, z_of0, z_lt h z_zero]
  omega
section ZRULES
variable {M : z_M} {nz : Nat × Nat} {pc : Nat} {L : List (Nat × z_V)} {st : List z_V} {σ : z_S} {Q : Option z_V → z_S → Prop}
theorem z_RvC {x : z_V} {st : List z_V} (h : ∀ q ∈ x :: st, z_Rv q) : z_Rv x ∧ ∀ q ∈ st, z_Rv q := ⟨h x List.mem_cons_self, fun q hq => h q (List.mem_cons_of_mem _ hq)⟩
theorem z_RvM {x : z_V} {st : List z_V} (h1 : z_Rv x) (h : ∀ q ∈ st, z_Rv q) : ∀ q ∈ x :: st, z_Rv q := List.forall_mem_cons.mpr ⟨h1, h⟩
theorem z_RvI {x : Int} {st : List z_V} (h1 : z_R x) (h : ∀ q ∈ st, z_Rv q) : ∀ q ∈ z_i x :: st, z_Rv q := z_RvM (x := z_i x) h1 h
theorem z_RvN {x : Nat} {st : List z_V} (h : ∀ q ∈ st, z_Rv q) : ∀ q ∈ z_r x :: st, z_Rv q := z_RvM (x := z_r x) True.intro h
theorem z_RvD {x : UInt64} {st : List z_V} (h : ∀ q ∈ st, z_Rv q) : ∀ q ∈ z_d x :: st, z_Rv q := z_RvM (x := z_d x) True.intro h
theorem z_RvF {x : UInt32} {st : List z_V} (h : ∀ q ∈ st, z_Rv q) : ∀ q ∈ z_f x :: st, z_Rv q := z_RvM (x := z_f x) True.intro h
theorem z_iconst {n : Int} (hd : decode M.2.1 pc = .ok (.iconst n, 1)) (hn : z_R n) (k : z_Sem M nz (pc + 1) L (z_i n :: st) σ Q) : z_Sem M nz pc L st σ Q :=
  z_pure (fun _ _ _ _ _ _ _ _ _ _ _ _ _ ls hX _ _ _ hl kk => lv_iconst hX.1 hX.2.1 hd rfl (kk ls hl)) (fun h _ => h) (fun _ h => z_RvI hn h) k
theorem z_bipush {n : Int} (hd : decode M.2.1 pc = .ok (.bipush n, 2)) (hv : (Int8.ofInt n).toInt32 = Int32.ofInt n) (hn : z_R n) (k : z_Sem M nz (pc + 2) L (z_i n :: st) σ Q) : z_Sem M nz pc L st σ Q :=
  z_pure (fun _ _ _ _ _ _ _ _ _ _ _ _ _ ls hX _ _ _ hl kk => lv_bipush hX.1 hX.2.1 hd hv (kk ls hl)) (fun h _ => h) (fun _ h => z_RvI hn h) k
theorem z_sipush {n : Int} (hd : decode M.2.1 pc = .ok (.sipush n, 3)) (hv : (Int16.ofInt n).toInt32 = Int32.ofInt n) (hn : z_R n) (k : z_Sem M nz (pc + 3) L (z_i n :: st) σ Q) : z_Sem M nz pc L st σ Q :=
  z_pure (fun _ _ _ _ _ _ _ _ _ _ _ _ _ ls hX _ _ _ hl kk => lv_sipush hX.1 hX.2.1 hd hv (kk ls hl)) (fun h _ => h) (fun _ h => z_RvI hn h) k
theorem z_ldc {n : Int} {v : Int32} {idx : Nat} (hc : Cond.constant M.1.cls idx v ∈ z_tb) (hd : decode M.2.1 pc = .ok (.ldc idx, 2)) (hv : v = Int32.ofInt n) (hn : z_R n) (k : z_Sem M nz (pc + 2) L (z_i n :: st) σ Q) : z_Sem M nz pc L st σ Q :=
  z_pure (fun _ _ _ _ _ _ _ _ _ _ _ _ _ ls hX _ _ _ hl kk => lv_ldc hX.1 hX.2.1 hX.2.2.2.2.1 (hX.2.2.2.2.2.1 _ hc) hd (by rw [hv]; exact kk ls hl)) (fun h _ => h) (fun _ h => z_RvI hn h) k
theorem z_ldcw {n : Int} {v : Int32} {idx : Nat} (hc : Cond.constant M.1.cls idx v ∈ z_tb) (hd : decode M.2.1 pc = .ok (.ldc_w idx, 3)) (hv : v = Int32.ofInt n) (hn : z_R n) (k : z_Sem M nz (pc + 3) L (z_i n :: st) σ Q) : z_Sem M nz pc L st σ Q :=
  z_pure (fun _ _ _ _ _ _ _ _ _ _ _ _ _ ls hX _ _ _ hl kk => lv_ldcw hX.1 hX.2.1 hX.2.2.2.2.1 (hX.2.2.2.2.2.1 _ hc) hd (by rw [hv]; exact kk ls hl)) (fun h _ => h) (fun _ h => z_RvI hn h) k
theorem z_ldcS {idx i : Nat} {tx : String} (hs : z_sl[i]? = some (M.1.cls, idx, tx)) (hd : decode M.2.1 pc = .ok (.ldc idx, 2)) (k : z_Sem M nz (pc + 2) L (z_r (1001 + i) :: st) σ Q) : z_Sem M nz pc L st σ Q := by
  refine z_pure ?_ (fun h _ => h) (fun _ h => z_RvN h) k
  intro G p l e s m args below meth c Z H locs ls hX hP hL hS hl kk
  have hO := hX.2.2.2.2.2.2.2.2.2.1
  exact va_ldcS hX.1 hX.2.1 hX.2.2.2.2.1 (hO.2.2.1 i _ hs) hd (kk ls hl)
theorem z_at {G : z_G} {L : List (Nat × z_V)} {nL : Nat} {ls : Array Slot} (hl : lv_has ls nL (z_lo G L)) {j i : Nat} {v : z_V} (h : L[j]? = some (i, v)) : ls[i]? = some (.val (z_cv G v)) := lv_at hl j (by simp [z_lo, h])
theorem z_RvL {L : List (Nat × z_V)} {j i : Nat} {v : z_V} (h : L[j]? = some (i, v)) (hL : ∀ q ∈ L, z_Rv q.2) : z_Rv v := hL _ (List.mem_of_getElem? h)
theorem z_iload_n {q : Fin 4} {i : Nat} {x : Int} (j : Nat) (hd : decode M.2.1 pc = .ok (.iload_n q, 1)) (hi : (q : Nat) = i) (h : L[j]? = some (i, z_i x)) (k : z_Sem M nz (pc + 1) L (z_i x :: st) σ Q) : z_Sem M nz pc L st σ Q :=
  z_pure (fun _ _ _ _ _ _ _ _ _ _ _ _ _ ls hX _ _ _ hl kk => lv_iload_n hX.1 hX.2.1 hd hi (z_at hl h) (kk ls hl)) (fun h _ => h) (fun h1 h2 => z_RvI (z_RvL h h1) h2) k
theorem z_iload {i : Nat} {x : Int} (j : Nat) (hd : decode M.2.1 pc = .ok (.iload i, 2)) (h : L[j]? = some (i, z_i x)) (k : z_Sem M nz (pc + 2) L (z_i x :: st) σ Q) : z_Sem M nz pc L st σ Q :=
  z_pure (fun _ _ _ _ _ _ _ _ _ _ _ _ _ ls hX _ _ _ hl kk => lv_iload hX.1 hX.2.1 hd (z_at hl h) (kk ls hl)) (fun h _ => h) (fun h1 h2 => z_RvI (z_RvL h h1) h2) k
theorem z_aload_n {q : Fin 4} {i : Nat} {x : Nat} (j : Nat) (hd : decode M.2.1 pc = .ok (.aload_n q, 1)) (hi : (q : Nat) = i) (h : L[j]? = some (i, z_r x)) (k : z_Sem M nz (pc + 1) L (z_r x :: st) σ Q) : z_Sem M nz pc L st σ Q :=
  z_pure (fun _ _ _ _ _ _ _ _ _ _ _ _ _ ls hX _ _ _ hl kk => lv_aload_n hX.1 hX.2.1 hd hi (z_at hl h) (kk ls hl)) (fun h _ => h) (fun _ h2 => z_RvN h2) k
theorem z_aload {i : Nat} {x : Nat} (j : Nat) (hd : decode M.2.1 pc = .ok (.aload i, 2)) (h : L[j]? = some (i, z_r x)) (k : z_Sem M nz (pc + 2) L (z_r x :: st) σ Q) : z_Sem M nz pc L st σ Q :=
  z_pure (fun _ _ _ _ _ _ _ _ _ _ _ _ _ ls hX _ _ _ hl kk => lv_aload hX.1 hX.2.1 hd (z_at hl h) (kk ls hl)) (fun h _ => h) (fun _ h2 => z_RvN h2) k
theorem z_dload {i : Nat} {x : UInt64} (j : Nat) (hd : decode M.2.1 pc = .ok (.dload i, 2)) (h : L[j]? = some (i, z_d x)) (k : z_Sem M nz (pc + 2) L (z_d x :: st) σ Q) : z_Sem M nz pc L st σ Q :=
  z_pure (fun _ _ _ _ _ _ _ _ _ _ _ _ _ ls hX _ _ _ hl kk => lv_dload hX.1 hX.2.1 hd (z_at hl h) (kk ls hl)) (fun h _ => h) (fun _ h2 => z_RvD h2) k
def z_c2 : z_V → Bool
  | .inr (.inr (.inr (.inl _))) => true
  | _ => false
/-- the locals behind a store at i -/
def z_st (L : List (Nat × z_V)) (i : Nat) (v : z_V) : List (Nat × z_V) := (i, v) :: L.filter (fun q => !(q.1 == i) && !(q.1 + 1 == i && z_c2 q.2))
def z_st2 (L : List (Nat × z_V)) (i : Nat) (v : z_V) : List (Nat × z_V) := (i, v) :: L.filter (fun q => !(q.1 == i) && (!(q.1 == i + 1) && !(q.1 + 1 == i && z_c2 q.2)))
theorem z_cat (G : z_G) (v : z_V) : ((z_cv G v).category == 2) = z_c2 v := by
  rcases v with x | x | x | x | (_ | x) <;> rfl
theorem z_lo_st (G : z_G) (L : List (Nat × z_V)) (i : Nat) (v : z_V) : (i, z_cv G v) :: (z_lo G L).filter (fun q => !(q.1 == i) && !(q.1 + 1 == i && q.2.category == 2)) = z_lo G (z_st L i v) := by
  simp only [z_lo, z_st, List.map_cons, List.filter_map]
  congr 2
  refine List.filter_congr fun q _ => ?_
  simp only [Function.comp, z_cat]
theorem z_lo_st2 (G : z_G) (L : List (Nat × z_V)) (i : Nat) (v : z_V) : (i, z_cv G v) :: (z_lo G L).filter (fun q => !(q.1 == i) && (!(q.1 == i + 1) && !(q.1 + 1 == i && q.2.category == 2))) = z_lo G (z_st2 L i v) := by
  simp only [z_lo, z_st2, List.map_cons, List.filter_map]
  congr 2
  refine List.filter_congr fun q _ => ?_
  simp only [Function.comp, z_cat]
theorem z_RvS {L : List (Nat × z_V)} {i : Nat} {v : z_V} (hv : z_Rv v) (hL : ∀ q ∈ L, z_Rv q.2) : ∀ q ∈ z_st L i v, z_Rv q.2 := by
  intro q hq
  rcases List.mem_cons.mp hq with rfl | h
  · exact hv
  · exact hL q (List.mem_filter.mp h).1
theorem z_RvS2 {L : List (Nat × z_V)} {i : Nat} {v : z_V} (hv : z_Rv v) (hL : ∀ q ∈ L, z_Rv q.2) : ∀ q ∈ z_st2 L i v, z_Rv q.2 := by
  intro q hq
  rcases List.mem_cons.mp hq with rfl | h
  · exact hv
  · exact hL q (List.mem_filter.mp h).1
theorem z_istore_n {q : Fin 4} {i : Nat} {x : Int} {L' : List (Nat × z_V)} (hd : decode M.2.1 pc = .ok (.istore_n q, 1)) (hi : (q : Nat) = i) (hn : i < M.2.2.1) (hl' : z_st L i (z_i x) = L') (k : z_Sem M nz (pc + 1) L' st σ Q) : z_Sem M nz pc L (z_i x :: st) σ Q := by
  subst hl'
  exact z_pure (fun G _ _ _ _ _ _ _ _ _ _ _ _ ls hX _ _ _ hl kk => lv_istore_n hX.1 hX.2.1 hd hi hl hn (z_lo_st G L i (z_i x)) kk) (fun h1 h2 => z_RvS (z_RvC h2).1 h1) (fun _ h => (z_RvC h).2) k
theorem z_istore {i : Nat} {x : Int} {L' : List (Nat × z_V)} (hd : decode M.2.1 pc = .ok (.istore i, 2)) (hn : i < M.2.2.1) (hl' : z_st L i (z_i x) = L') (k : z_Sem M nz (pc + 2) L' st σ Q) : z_Sem M nz pc L (z_i x :: st) σ Q := by
  subst hl'
  exact z_pure (fun G _ _ _ _ _ _ _ _ _ _ _ _ ls hX _ _ _ hl kk => lv_istore hX.1 hX.2.1 hd hl hn (z_lo_st G L i (z_i x)) kk) (fun h1 h2 => z_RvS (z_RvC h2).1 h1) (fun _ h => (z_RvC h).2) k
theorem z_astore_n {q : Fin 4} {i : Nat} {x : Nat} {L' : List (Nat × z_V)} (hd : decode M.2.1 pc = .ok (.astore_n q, 1)) (hi : (q : Nat) = i) (hn : i < M.2.2.1) (hl' : z_st L i (z_r x) = L') (k : z_Sem M nz (pc + 1) L' st σ Q) : z_Sem M nz pc L (z_r x :: st) σ Q := by
  subst hl'
  exact z_pure (fun G _ _ _ _ _ _ _ _ _ _ _ _ ls hX _ _ _ hl kk => lv_astore_n hX.1 hX.2.1 hd hi hl hn (z_lo_st G L i (z_r x)) kk) (fun h1 h2 => z_RvS (z_RvC h2).1 h1) (fun _ h => (z_RvC h).2) k
theorem z_dstore {i : Nat} {x : UInt64} {L' : List (Nat × z_V)} (hd : decode M.2.1 pc = .ok (.dstore i, 2)) (hn : i + 1 < M.2.2.1) (hl' : z_st2 L i (z_d x) = L') (k : z_Sem M nz (pc + 2) L' st σ Q) : z_Sem M nz pc L (z_d x :: st) σ Q := by
  subst hl'
  exact z_pure (fun G _ _ _ _ _ _ _ _ _ _ _ _ ls hX _ _ _ hl kk => lv_dstore hX.1 hX.2.1 hd hl hn (z_lo_st2 G L i (z_d x)) kk) (fun h1 h2 => z_RvS2 (z_RvC h2).1 h1) (fun _ h => (z_RvC h).2) k
theorem z_iinc {i : Nat} {n x : Int} {L' : List (Nat × z_V)} (j : Nat) (hd : decode M.2.1 pc = .ok (.iinc i n, 3)) (h : L[j]? = some (i, z_i x)) (hn : i < M.2.2.1) (hl' : z_st L i (z_i (x + n)) = L') (hr : z_R (x + n)) (k : z_Sem M nz (pc + 3) L' st σ Q) : z_Sem M nz pc L st σ Q := by
  subst hl'
  exact z_pure (fun G _ _ _ _ _ _ _ _ _ _ _ _ ls hX _ _ _ hl kk => lv_iinc (k := j) hX.1 hX.2.1 hd hl (by simp [z_lo, h]; rfl) (Int32.ofInt_add x n).symm hn (z_lo_st G L i (z_i (x + n))) kk) (fun h1 h2 => z_RvS (show z_R (x + n) from hr) h1) (fun _ h => h) k
theorem z_iadd {x y : Int} (hd : decode M.2.1 pc = .ok (.iadd, 1)) (hr : z_R (x + y)) (k : z_Sem M nz (pc + 1) L (z_i (x + y) :: st) σ Q) : z_Sem M nz pc L (z_i y :: z_i x :: st) σ Q :=
  z_pure (fun _ _ _ _ _ _ _ _ _ _ _ _ _ ls hX _ _ _ hl kk => lv_iadd hX.1 hX.2.1 hd (by rw [← Int32.ofInt_add]; exact kk ls hl)) (fun h _ => h) (fun _ h => z_RvI hr (z_RvC (z_RvC h).2).2) k
theorem z_isub {x y : Int} (hd : decode M.2.1 pc = .ok (.isub, 1)) (hr : z_R (x - y)) (k : z_Sem M nz (pc + 1) L (z_i (x - y) :: st) σ Q) : z_Sem M nz pc L (z_i y :: z_i x :: st) σ Q :=
  z_pure (fun _ _ _ _ _ _ _ _ _ _ _ _ _ ls hX _ _ _ hl kk => lv_isub hX.1 hX.2.1 hd (by rw [← Int32.ofInt_sub]; exact kk ls hl)) (fun h _ => h) (fun _ h => z_RvI hr (z_RvC (z_RvC h).2).2) k
theorem z_imul {x y : Int} (hd : decode M.2.1 pc = .ok (.imul, 1)) (hr : z_R (x * y)) (k : z_Sem M nz (pc + 1) L (z_i (x * y) :: st) σ Q) : z_Sem M nz pc L (z_i y :: z_i x :: st) σ Q :=
  z_pure (fun _ _ _ _ _ _ _ _ _ _ _ _ _ ls hX _ _ _ hl kk => lv_imul hX.1 hX.2.1 hd (by rw [← Int32.ofInt_mul]; exact kk ls hl)) (fun h _ => h) (fun _ h => z_RvI hr (z_RvC (z_RvC h).2).2) k
theorem z_ineg {x : Int} (hd : decode M.2.1 pc = .ok (.ineg, 1)) (hr : z_R (-x)) (k : z_Sem M nz (pc + 1) L (z_i (-x) :: st) σ Q) : z_Sem M nz pc L (z_i x :: st) σ Q :=
  z_pure (fun _ _ _ _ _ _ _ _ _ _ _ _ _ ls hX _ _ _ hl kk => lv_ineg hX.1 hX.2.1 hd (by rw [← Int32.ofInt_neg]; exact kk ls hl)) (fun h _ => h) (fun _ h => z_RvI hr (z_RvC h).2) k
theorem z_tdR {x y : Int} (hx : z_R x) (h0 : 0 < y) : z_R (x.tdiv y) := by
  have hx1 := hx.1
  have hx2 := hx.2
  rcases Int.le_total 0 x with h | h
  · rw [Int.tdiv_eq_ediv_of_nonneg h]
    have h1 := Int.ediv_nonneg h (Int.le_of_lt h0)
    have h2 := Int.ediv_le_self y h
    constructor <;> omega
  · have h3 : x.tdiv y = -((-x) / y) := by
      have h4 : (-x).tdiv y = -(x.tdiv y) := Int.neg_tdiv _ _
      rw [← Int.tdiv_eq_ediv_of_nonneg (by omega : 0 ≤ -x), h4]
      omega
    rw [h3]
    have h1 := Int.ediv_nonneg (by omega : 0 ≤ -x) (Int.le_of_lt h0)
    have h2 := Int.ediv_le_self y (by omega : 0 ≤ -x)
    constructor <;> omega
theorem z_div32 {x y : Int} (hx : z_R x) (hy : z_R y) (h0 : 0 < y) : Int32.ofInt x / Int32.ofInt y = Int32.ofInt (x.tdiv y) := by
  apply Int32.toInt_inj.mp
  have h2 := z_tdR hx h0
  rw [Int32.toInt_div, z_toInt hx, z_toInt hy, z_toInt h2]
  exact Int.bmod_eq_of_le (by have := h2.1; omega) (by have := h2.2; omega)
theorem z_idiv {x y : Int} (hd : decode M.2.1 pc = .ok (.idiv, 1)) (hy : 0 < y) (k : z_Sem M nz (pc + 1) L (z_i (x.tdiv y) :: st) σ Q) : z_Sem M nz pc L (z_i y :: z_i x :: st) σ Q := by
  refine z_pure ?_ (fun h _ => h) (fun _ h => z_RvI (z_tdR (z_RvC (z_RvC h).2).1 hy) (z_RvC (z_RvC h).2).2) k
  intro G p l e s m args below meth c Z H locs ls hX hP hL hS hl kk
  have hy' : z_R y := (z_RvC hS).1
  have hx' : z_R x := (z_RvC (z_RvC hS).2).1
  refine lv_idiv hX.1 hX.2.1 hd (fun h => ?_) (by rw [z_div32 hx' hy' hy]; exact kk ls hl)
  rw [z_of0, z_eq hy' z_zero] at h
  omega
theorem z_irem {x y : Int} (hd : decode M.2.1 pc = .ok (.irem, 1)) (hy : 0 < y) (k : z_Sem M nz (pc + 1) L (z_i (x.tmod y) :: st) σ Q) : z_Sem M nz pc L (z_i y :: z_i x :: st) σ Q := by
  refine z_pure ?_ (fun h _ => h) (fun _ h => z_RvI ?_ (z_RvC (z_RvC h).2).2) k
  · intro G p l e s m args below meth c Z H locs ls hX hP hL hS hl kk
    have hy' : z_R y := (z_RvC hS).1
    have hx' : z_R x := (z_RvC (z_RvC hS).2).1
    refine lv_irem hX.1 hX.2.1 hd (fun h => ?_) (by rw [z_div32 hx' hy' hy, ← Int32.ofInt_mul, ← Int32.ofInt_sub, show x - x.tdiv y * y = x.tmod y by rw [Int.tmod_def, Int.mul_comm]]; exact kk ls hl)
    rw [z_of0, z_eq hy' z_zero] at h
    omega
  · have hy' : z_R y := (z_RvC h).1
    have h3 := Int.lt_tmod_of_pos x hy
    have h4 := Int.tmod_lt_of_pos x hy
    have hy2 := hy'.2
    show z_R (x.tmod y)
    constructor <;> omega
theorem z_Rto (x : Int32) : z_R x.toInt := by
  have h1 := Int32.le_toInt x
  have h2 := Int32.toInt_lt x
  constructor <;> omega
def z_and (x y : Int) : Int := (Int32.ofInt x &&& Int32.ofInt y).toInt
def z_xor (x y : Int) : Int := (Int32.ofInt x ^^^ Int32.ofInt y).toInt
def z_shr (x y : Int) : Int := (Int32.ofInt x >>> (Int32.ofInt y &&& 31)).toInt
def z_ushr (x y : Int) : Int := ((Int32.ofInt x).toUInt32 >>> ((Int32.ofInt y).toUInt32 &&& Int32.toUInt32 31)).toInt32.toInt
def z_i2bv (x : Int) : Int := (Int32.ofInt x).toInt8.toInt32.toInt
def z_i2cv (x : Int) : Int := ((Int32.ofInt x).toUInt32 % 65536).toInt32.toInt
theorem z_iand {x y : Int} (hd : decode M.2.1 pc = .ok (.iand, 1)) (k : z_Sem M nz (pc + 1) L (z_i (z_and x y) :: st) σ Q) : z_Sem M nz pc L (z_i y :: z_i x :: st) σ Q :=
  z_pure (fun _ _ _ _ _ _ _ _ _ _ _ _ _ ls hX _ _ _ hl kk => lv_iand hX.1 hX.2.1 hd (by have h := kk ls hl; simp only [List.map_cons, z_cv, z_and, Int32.ofInt_toInt] at h; exact h)) (fun h _ => h) (fun _ h => z_RvI (z_Rto _) (z_RvC (z_RvC h).2).2) k
theorem z_ixor {x y : Int} (hd : decode M.2.1 pc = .ok (.ixor, 1)) (k : z_Sem M nz (pc + 1) L (z_i (z_xor x y) :: st) σ Q) : z_Sem M nz pc L (z_i y :: z_i x :: st) σ Q :=
  z_pure (fun _ _ _ _ _ _ _ _ _ _ _ _ _ ls hX _ _ _ hl kk => lv_ixor hX.1 hX.2.1 hd (by have h := kk ls hl; simp only [List.map_cons, z_cv, z_xor, Int32.ofInt_toInt] at h; exact h)) (fun h _ => h) (fun _ h => z_RvI (z_Rto _) (z_RvC (z_RvC h).2).2) k
theorem z_ishr {x y : Int} (hd : decode M.2.1 pc = .ok (.ishr, 1)) (k : z_Sem M nz (pc + 1) L (z_i (z_shr x y) :: st) σ Q) : z_Sem M nz pc L (z_i y :: z_i x :: st) σ Q :=
  z_pure (fun _ _ _ _ _ _ _ _ _ _ _ _ _ ls hX _ _ _ hl kk => lv_ishr hX.1 hX.2.1 hd (by have h := kk ls hl; simp only [List.map_cons, z_cv, z_shr, Int32.ofInt_toInt] at h; exact h)) (fun h _ => h) (fun _ h => z_RvI (z_Rto _) (z_RvC (z_RvC h).2).2) k
theorem z_iushr {x y : Int} (hd : decode M.2.1 pc = .ok (.iushr, 1)) (k : z_Sem M nz (pc + 1) L (z_i (z_ushr x y) :: st) σ Q) : z_Sem M nz pc L (z_i y :: z_i x :: st) σ Q :=
  z_pure (fun _ _ _ _ _ _ _ _ _ _ _ _ _ ls hX _ _ _ hl kk => lv_iushr hX.1 hX.2.1 hd rfl (by have h := kk ls hl; simp only [List.map_cons, z_cv, z_ushr, Int32.ofInt_toInt] at h; exact h)) (fun h _ => h) (fun _ h => z_RvI (z_Rto _) (z_RvC (z_RvC h).2).2) k
theorem z_i2b {x : Int} (hd : decode M.2.1 pc = .ok (.i2b, 1)) (k : z_Sem M nz (pc + 1) L (z_i (z_i2bv x) :: st) σ Q) : z_Sem M nz pc L (z_i x :: st) σ Q :=
  z_pure (fun _ _ _ _ _ _ _ _ _ _ _ _ _ ls hX _ _ _ hl kk => lv_i2b hX.1 hX.2.1 hd rfl (by have h := kk ls hl; simp only [List.map_cons, z_cv, z_i2bv, Int32.ofInt_toInt] at h; exact h)) (fun h _ => h) (fun _ h => z_RvI (z_Rto _) (z_RvC h).2) k
theorem z_i2c {x : Int} (hd : decode M.2.1 pc = .ok (.i2c, 1)) (k : z_Sem M nz (pc + 1) L (z_i (z_i2cv x) :: st) σ Q) : z_Sem M nz pc L (z_i x :: st) σ Q :=
  z_pure (fun _ _ _ _ _ _ _ _ _ _ _ _ _ ls hX _ _ _ hl kk => lv_i2c hX.1 hX.2.1 hd rfl (by have h := kk ls hl; simp only [List.map_cons, z_cv, z_i2cv, Int32.ofInt_toInt] at h; exact h)) (fun h _ => h) (fun _ h => z_RvI (z_Rto _) (z_RvC h).2) k
theorem z_dup {x : z_V} (hd : decode M.2.1 pc = .ok (.dup, 1)) (h1 : z_c2 x = false) (k : z_Sem M nz (pc + 1) L (x :: x :: st) σ Q) : z_Sem M nz pc L (x :: st) σ Q :=
  z_pure (fun G _ _ _ _ _ _ _ _ _ _ _ _ ls hX _ _ _ hl kk => lv_dup hX.1 hX.2.1 hd (by rcases x with x | x | x | x | (_ | x) <;> first | rfl | cases h1) (kk ls hl)) (fun h _ => h) (fun _ h => z_RvM (z_RvC h).1 h) k
theorem z_pop {x : z_V} (hd : decode M.2.1 pc = .ok (.pop, 1)) (h1 : z_c2 x = false) (k : z_Sem M nz (pc + 1) L st σ Q) : z_Sem M nz pc L (x :: st) σ Q :=
  z_pure (fun G _ _ _ _ _ _ _ _ _ _ _ _ ls hX _ _ _ hl kk => lv_pop hX.1 hX.2.1 hd (by rcases x with x | x | x | x | (_ | x) <;> first | rfl | cases h1) (kk ls hl)) (fun h _ => h) (fun _ h => (z_RvC h).2) k
theorem z_goto {off : Int} {tgt : Nat} (hd : decode M.2.1 pc = .ok (.goto off, 3)) (ht : (pc : Int) + off = (tgt : Int)) (k : z_Sem M nz tgt L st σ Q) : z_Sem M nz pc L st σ Q :=
  z_pure (fun G _ _ _ _ _ _ _ _ _ _ _ _ ls hX _ _ _ hl kk => lv_goto hX.1 hX.2.1 hd ht (kk ls hl)) (fun h _ => h) (fun _ h => h) k
end ZRULES
end
section
theorem z_pure2 {M : z_M} {nz : Nat × Nat} {pc pc1 pc2 : Nat} {L : List (Nat × z_V)} {st st' : List z_V} {σ : z_S} {Q : Option z_V → z_S → Prop} {P : Prop}
    (h : ∀ (G : z_G) (p : Program) (l : Launch) (e : Env) (s : State) (m : MethodId) (args : Array Value) (below : List Frame) (meth : Method) (c : Code) (Z : State → Prop) (H : Heap) (locs : List Loc) (ls : Array Slot), z_X G M nz.1 p s m args meth c → (∀ q ∈ st, z_Rv q) →
      (P → W p l e M.2.2.2.2 s m args below meth c H locs nz.2 nz.2 Z (F0 m pc1 ls (st'.map (z_cv G)))) → (¬ P → W p l e M.2.2.2.2 s m args below meth c H locs nz.2 nz.2 Z (F0 m pc2 ls (st'.map (z_cv G)))) → W p l e M.2.2.2.2 s m args below meth c H locs nz.2 nz.2 Z (F0 m pc ls (st.map (z_cv G))))
    (hS' : (∀ q ∈ st, z_Rv q) → ∀ q ∈ st', z_Rv q)
    (k1 : P → z_Sem M nz pc1 L st' σ Q) (k2 : ¬ P → z_Sem M nz pc2 L st' σ Q) : z_Sem M nz pc L st σ Q := by
  intro G p l e s m args below meth c Z H locs ls hX hZ hP hL hS hl hc
  exact h G p l e s m args below meth c Z H locs ls hX hS (fun hp => k1 hp G p l e s m args below meth c Z H locs ls hX hZ hP hL (hS' hS) hl hc) (fun hp => k2 hp G p l e s m args below meth c Z H locs ls hX hZ hP hL (hS' hS) hl hc)
section ZRULES2
variable {M : z_M} {nz : Nat × Nat} {pc : Nat} {L : List (Nat × z_V)} {st : List z_V} {σ : z_S} {Q : Option z_V → z_S → Prop}

theorem z_icmp_eq {x y off : Int} {tgt : Nat} (hd : decode M.2.1 pc = .ok (.if_icmp .eq off, 3)) (ht : (pc : Int) + off = (tgt : Int)) (kt : x = y → z_Sem M nz tgt L st σ Q) (kf : ¬ x = y → z_Sem M nz (pc + 3) L st σ Q) : z_Sem M nz pc L (z_i y :: z_i x :: st) σ Q := by
  refine z_pure2 (P := x = y) ?_ (fun h => (z_RvC (z_RvC h).2).2) kt kf
  intro G p l e s m args below meth c Z H locs ls hX hS k1 k2
  have hy : z_R y := (z_RvC hS).1
  have hx : z_R x := (z_RvC (z_RvC hS).2).1
  exact lv_icmp_eq hX.1 hX.2.1 hd ht (fun h => k1 ((z_eq hx hy).mp h)) (fun h => k2 (fun q => h ((z_eq hx hy).mpr q)))
theorem z_if_eq {x off : Int} {tgt : Nat} (hd : decode M.2.1 pc = .ok (.ifCond .eq off, 3)) (ht : (pc : Int) + off = (tgt : Int)) (kt : x = 0 → z_Sem M nz tgt L st σ Q) (kf : ¬ x = 0 → z_Sem M nz (pc + 3) L st σ Q) : z_Sem M nz pc L (z_i x :: st) σ Q := by
  refine z_pure2 (P := x = 0) ?_ (fun h => (z_RvC h).2) kt kf
  intro G p l e s m args below meth c Z H locs ls hX hS k1 k2
  have hx : z_R x := (z_RvC hS).1
  exact lv_if_eq hX.1 hX.2.1 hd ht (fun h => k1 ((z_eq hx z_zero).mp (by rw [← z_of0]; exact h))) (fun h => k2 (fun q => h (by rw [z_of0]; exact (z_eq hx z_zero).mpr q)))
theorem z_icmp_ne {x y off : Int} {tgt : Nat} (hd : decode M.2.1 pc = .ok (.if_icmp .ne off, 3)) (ht : (pc : Int) + off = (tgt : Int)) (kt : ¬ x = y → z_Sem M nz tgt L st σ Q) (kf : x = y → z_Sem M nz (pc + 3) L st σ Q) : z_Sem M nz pc L (z_i y :: z_i x :: st) σ Q := by
  refine z_pure2 (P := ¬ x = y) ?_ (fun h => (z_RvC (z_RvC h).2).2) kt (fun h => kf (Decidable.of_not_not h))
  intro G p l e s m args below meth c Z H locs ls hX hS k1 k2
  have hy : z_R y := (z_RvC hS).1
  have hx : z_R x := (z_RvC (z_RvC hS).2).1
  exact lv_icmp_ne hX.1 hX.2.1 hd ht (fun h => k1 (fun q => h ((z_eq hx hy).mpr q))) (fun h => k2 (fun q => q ((z_eq hx hy).mp h)))
theorem z_if_ne {x off : Int} {tgt : Nat} (hd : decode M.2.1 pc = .ok (.ifCond .ne off, 3)) (ht : (pc : Int) + off = (tgt : Int)) (kt : ¬ x = 0 → z_Sem M nz tgt L st σ Q) (kf : x = 0 → z_Sem M nz (pc + 3) L st σ Q) : z_Sem M nz pc L (z_i x :: st) σ Q := by
  refine z_pure2 (P := ¬ x = 0) ?_ (fun h => (z_RvC h).2) kt (fun h => kf (Decidable.of_not_not h))
  intro G p l e s m args below meth c Z H locs ls hX hS k1 k2
  have hx : z_R x := (z_RvC hS).1
  exact lv_if_ne hX.1 hX.2.1 hd ht (fun h => k1 (fun q => h (by rw [z_of0]; exact (z_eq hx z_zero).mpr q))) (fun h => k2 (fun q => q ((z_eq hx z_zero).mp (by rw [← z_of0]; exact h))))
theorem z_icmp_lt {x y off : Int} {tgt : Nat} (hd : decode M.2.1 pc = .ok (.if_icmp .lt off, 3)) (ht : (pc : Int) + off = (tgt : Int)) (kt : x < y → z_Sem M nz tgt L st σ Q) (kf : ¬ x < y → z_Sem M nz (pc + 3) L st σ Q) : z_Sem M nz pc L (z_i y :: z_i x :: st) σ Q := by
  refine z_pure2 (P := x < y) ?_ (fun h => (z_RvC (z_RvC h).2).2) kt kf
  intro G p l e s m args below meth c Z H locs ls hX hS k1 k2
  have hy : z_R y := (z_RvC hS).1
  have hx : z_R x := (z_RvC (z_RvC hS).2).1
  exact lv_icmp_lt hX.1 hX.2.1 hd ht (fun h => k1 ((z_lt hx hy).mp h)) (fun h => k2 (fun q => h ((z_lt hx hy).mpr q)))
theorem z_if_lt {x off : Int} {tgt : Nat} (hd : decode M.2.1 pc = .ok (.ifCond .lt off, 3)) (ht : (pc : Int) + off = (tgt : Int)) (kt : x < 0 → z_Sem M nz tgt L st σ Q) (kf : ¬ x < 0 → z_Sem M nz (pc + 3) L st σ Q) : z_Sem M nz pc L (z_i x :: st) σ Q := by
  refine z_pure2 (P := x < 0) ?_ (fun h => (z_RvC h).2) kt kf
  intro G p l e s m args below meth c Z H locs ls hX hS k1 k2
  have hx : z_R x := (z_RvC hS).1
  exact lv_if_lt hX.1 hX.2.1 hd ht (fun h => k1 ((z_lt hx z_zero).mp (by rw [← z_of0]; exact h))) (fun h => k2 (fun q => h (by rw [z_of0]; exact (z_lt hx z_zero).mpr q)))
theorem z_icmp_ge {x y off : Int} {tgt : Nat} (hd : decode M.2.1 pc = .ok (.if_icmp .ge off, 3)) (ht : (pc : Int) + off = (tgt : Int)) (kt : y ≤ x → z_Sem M nz tgt L st σ Q) (kf : ¬ y ≤ x → z_Sem M nz (pc + 3) L st σ Q) : z_Sem M nz pc L (z_i y :: z_i x :: st) σ Q := by
  refine z_pure2 (P := y ≤ x) ?_ (fun h => (z_RvC (z_RvC h).2).2) kt kf
  intro G p l e s m args below meth c Z H locs ls hX hS k1 k2
  have hy : z_R y := (z_RvC hS).1
  have hx : z_R x := (z_RvC (z_RvC hS).2).1
  exact lv_icmp_ge hX.1 hX.2.1 hd ht (fun h => k1 ((z_le hy hx).mp h)) (fun h => k2 (fun q => h ((z_le hy hx).mpr q)))
theorem z_if_ge {x off : Int} {tgt : Nat} (hd : decode M.2.1 pc = .ok (.ifCond .ge off, 3)) (ht : (pc : Int) + off = (tgt : Int)) (kt : 0 ≤ x → z_Sem M nz tgt L st σ Q) (kf : ¬ 0 ≤ x → z_Sem M nz (pc + 3) L st σ Q) : z_Sem M nz pc L (z_i x :: st) σ Q := by
  refine z_pure2 (P := 0 ≤ x) ?_ (fun h => (z_RvC h).2) kt kf
  intro G p l e s m args below meth c Z H locs ls hX hS k1 k2
  have hx : z_R x := (z_RvC hS).1
  exact lv_if_ge hX.1 hX.2.1 hd ht (fun h => k1 ((z_le z_zero hx).mp (by rw [← z_of0]; exact h))) (fun h => k2 (fun q => h (by rw [z_of0]; exact (z_le z_zero hx).mpr q)))
theorem z_icmp_gt {x y off : Int} {tgt : Nat} (hd : decode M.2.1 pc = .ok (.if_icmp .gt off, 3)) (ht : (pc : Int) + off = (tgt : Int)) (kt : y < x → z_Sem M nz tgt L st σ Q) (kf : ¬ y < x → z_Sem M nz (pc + 3) L st σ Q) : z_Sem M nz pc L (z_i y :: z_i x :: st) σ Q := by
  refine z_pure2 (P := y < x) ?_ (fun h => (z_RvC (z_RvC h).2).2) kt kf
  intro G p l e s m args below meth c Z H locs ls hX hS k1 k2
  have hy : z_R y := (z_RvC hS).1
  have hx : z_R x := (z_RvC (z_RvC hS).2).1
  exact lv_icmp_gt hX.1 hX.2.1 hd ht (fun h => k1 ((z_lt hy hx).mp h)) (fun h => k2 (fun q => h ((z_lt hy hx).mpr q)))
theorem z_if_gt {x off : Int} {tgt : Nat} (hd : decode M.2.1 pc = .ok (.ifCond .gt off, 3)) (ht : (pc : Int) + off = (tgt : Int)) (kt : 0 < x → z_Sem M nz tgt L st σ Q) (kf : ¬ 0 < x → z_Sem M nz (pc + 3) L st σ Q) : z_Sem M nz pc L (z_i x :: st) σ Q := by
  refine z_pure2 (P := 0 < x) ?_ (fun h => (z_RvC h).2) kt kf
  intro G p l e s m args below meth c Z H locs ls hX hS k1 k2
  have hx : z_R x := (z_RvC hS).1
  exact lv_if_gt hX.1 hX.2.1 hd ht (fun h => k1 ((z_lt z_zero hx).mp (by rw [← z_of0]; exact h))) (fun h => k2 (fun q => h (by rw [z_of0]; exact (z_lt z_zero hx).mpr q)))
theorem z_icmp_le {x y off : Int} {tgt : Nat} (hd : decode M.2.1 pc = .ok (.if_icmp .le off, 3)) (ht : (pc : Int) + off = (tgt : Int)) (kt : x ≤ y → z_Sem M nz tgt L st σ Q) (kf : ¬ x ≤ y → z_Sem M nz (pc + 3) L st σ Q) : z_Sem M nz pc L (z_i y :: z_i x :: st) σ Q := by
  refine z_pure2 (P := x ≤ y) ?_ (fun h => (z_RvC (z_RvC h).2).2) kt kf
  intro G p l e s m args below meth c Z H locs ls hX hS k1 k2
  have hy : z_R y := (z_RvC hS).1
  have hx : z_R x := (z_RvC (z_RvC hS).2).1
  exact lv_icmp_le hX.1 hX.2.1 hd ht (fun h => k1 ((z_le hx hy).mp h)) (fun h => k2 (fun q => h ((z_le hx hy).mpr q)))
theorem z_if_le {x off : Int} {tgt : Nat} (hd : decode M.2.1 pc = .ok (.ifCond .le off, 3)) (ht : (pc : Int) + off = (tgt : Int)) (kt : x ≤ 0 → z_Sem M nz tgt L st σ Q) (kf : ¬ x ≤ 0 → z_Sem M nz (pc + 3) L st σ Q) : z_Sem M nz pc L (z_i x :: st) σ Q := by
  refine z_pure2 (P := x ≤ 0) ?_ (fun h => (z_RvC h).2) kt kf
  intro G p l e s m args below meth c Z H locs ls hX hS k1 k2
  have hx : z_R x := (z_RvC hS).1
  exact lv_if_le hX.1 hX.2.1 hd ht (fun h => k1 ((z_le hx z_zero).mp (by rw [← z_of0]; exact h))) (fun h => k2 (fun q => h (by rw [z_of0]; exact (z_le hx z_zero).mpr q)))
theorem z_tab {x dflt lo hi : Int} {offs : Array Int} {len tgd : Nat} (hd : decode M.2.1 pc = .ok (.tableswitch dflt lo hi offs, len)) (htd : (pc : Int) + dflt = (tgd : Int))
    (kin : lo ≤ x → x ≤ hi → ∃ (off : Int) (tgt : Nat), offs[(x - lo).toNat]? = some off ∧ (pc : Int) + off = (tgt : Int) ∧ z_Sem M nz tgt L st σ Q) (kout : (x < lo ∨ hi < x) → z_Sem M nz tgd L st σ Q) : z_Sem M nz pc L (z_i x :: st) σ Q := by
  intro G p l e s m args below meth c Z H locs ls hX hZ hP hL hS hl hc
  have hx : z_R x := (z_RvC hS).1
  by_cases h : x < lo ∨ hi < x
  · exact lv_tableOut hX.1 hX.2.1 hd (by rw [z_toInt hx]; exact h) htd (kout h G p l e s m args below meth c Z H locs ls hX hZ hP hL (z_RvC hS).2 hl hc)
  · obtain ⟨off, tgt, h1, h2, h3⟩ := kin (by omega) (by omega)
    exact lv_tableIn hX.1 hX.2.1 hd (by rw [z_toInt hx]; omega) (by rw [z_toInt hx]; omega) (by rw [z_toInt hx]; exact h1) h2 (h3 G p l e s m args below meth c Z H locs ls hX hZ hP hL (z_RvC hS).2 hl hc)
theorem z_look {x dflt off : Int} {ps : Array (Int × Int)} {len tgt : Nat} (hd : decode M.2.1 pc = .ok (.lookupswitch dflt ps, len)) (hp : (ps.toList.zip (ps.toList.drop 1)).all (fun (a, next) => a.1 < next.1) = true)
    (ho : Op.lookupswitch.offset ps.toList dflt x = off) (ht : (pc : Int) + off = (tgt : Int)) (k : z_Sem M nz tgt L st σ Q) : z_Sem M nz pc L (z_i x :: st) σ Q := by
  intro G p l e s m args below meth c Z H locs ls hX hZ hP hL hS hl hc
  have hx : z_R x := (z_RvC hS).1
  exact lv_lookup hX.1 hX.2.1 hd hp (by rw [z_toInt hx]; exact ho) ht (k G p l e s m args below meth c Z H locs ls hX hZ hP hL (z_RvC hS).2 hl hc)
theorem z_dup2 {x y : z_V} (hd : decode M.2.1 pc = .ok (.dup2, 1)) (h1 : z_c2 x = false) (h2 : z_c2 y = false) (k : z_Sem M nz (pc + 1) L (x :: y :: x :: y :: st) σ Q) : z_Sem M nz pc L (x :: y :: st) σ Q :=
  z_pure (fun G _ _ _ _ _ _ _ _ _ _ _ _ ls hX _ _ _ hl kk => lv_dup2_11 hX.1 hX.2.1 hd (by rcases x with x | x | x | x | (_ | x) <;> first | rfl | cases h1) (by rcases y with x | x | x | x | (_ | x) <;> first | rfl | cases h2) (kk ls hl)) (fun h _ => h) (fun _ h => z_RvM (z_RvC h).1 (z_RvM (z_RvC (z_RvC h).2).1 h)) k
/-! fields -/
def z_cls (ci : Nat) (C : String) (T : u_T) (N : Nat) (ty : Nat → FieldType) : Prop := z_Cl[ci]? = some (C, T, N) ∧ (∀ w ∈ u_ws C T N, w ∈ z_tb) ∧ (∀ k, k < N → parseFieldDescriptor (T k).2.2.1 = some (ty k)) ∧ (∀ a, a < N → ∀ b, b < N → a ≠ b → (T a).2.1 ≠ (T b).2.1)
def z_fl (own : String) (idx ci k : Nat) (t : FieldType) (fin : Bool) : Prop := ∃ (C : String) (T : u_T) (N : Nat) (ty : Nat → FieldType), z_cls ci C T N ty ∧ k < N ∧ (T k).2.2.2 = fin ∧ ty k = t ∧ (Cond.fieldLink own idx (T k).1 (T k).2.1 (T k).2.2.1 ∈ z_tb ∨ ∃ host : String, Cond.fieldLinkNest own idx (T k).1 (T k).2.1 (T k).2.2.1 host ∈ z_tn)
theorem z_lt1000 {G : z_G} {σ : z_S} {s : State} {H : Heap} {locs : List Loc} {a : Nat} {c : z_C} (hP : z_P G σ s H locs) (hs : σ.1[a]? = some c) : a < 1000 := Nat.lt_of_lt_of_le (List.getElem?_eq_some_iff.mp hs).1 hP.1.2.1
theorem z_cvr {G : z_G} {σ : z_S} {s : State} {H : Heap} {locs : List Loc} {a : Nat} {c : z_C} (hP : z_P G σ s H locs) (hs : σ.1[a]? = some c) : z_cv G (z_r a) = .ref (z_ad G a) := rfl
theorem z_getV {idx ci k a : Nat} {t : FieldType} {fin : Bool} {fl : List (Option (Option Nat))} {v : z_V} (hf : z_fl M.1.cls idx ci k t fin) (hd : decode M.2.1 pc = .ok (.getfield idx, 3)) (hs : σ.1[a]? = some (.inl (ci, fl))) (hv : ∀ G : z_G, (fl.mapIdx (z_fld G (σ.2 a)))[k]? = some (z_cv G v)) (hr : (∀ (a : Nat) (i : Int), z_R (σ.2 a i)) → z_Rv v)
    (kk : z_Sem M nz (pc + 3) L (v :: st) σ Q) : z_Sem M nz pc L (z_r a :: st) σ Q := by
  intro G p l e s m args below meth c Z H locs ls hX hZ hP hL hS hl hc
  obtain ⟨C, T, N, ty, ⟨c1, c2, c3, c4⟩, hk, hfin, hty, hlink⟩ := hf
  rw [List.map_cons, z_cvr hP hs]
  have h1 := kk G p l e s m args below meth c Z H locs ls hX hZ hP hL (z_RvM (hr hP.1.2.2.1) (z_RvC hS).2) hl hc
  rcases hlink with h | ⟨host, h⟩
  · exact va_get (ref := (T k).1) (index := idx) hX.1 hX.2.1 hX.2.2.2.2.2.1 c2 hX.2.2.2.2.1 hX.2.2.2.2.2.2.2.2.1 hP.1.1 a (z_ws_get hs) c1 k hk (hX.2.2.2.2.2.1 _ h) (fun x hx => hx) (hv G) hd h1
  · exact va_getN (ref := (T k).1) (index := idx) hX.1 hX.2.1 hX.2.2.2.2.2.1 c2 hX.2.2.2.2.1 hX.2.2.2.2.2.2.2.2.1 hP.1.1 a (z_ws_get hs) c1 k hk ((hX.2.2.2.2.2.2.2.2.2.1.2.2.2.2.2.1 _ h).use rfl) (fun x hx => hx) (hv G) hd h1
theorem z_getI {idx ci k a : Nat} {ki : Int} {t : FieldType} {fin : Bool} {fl : List (Option (Option Nat))} (hf : z_fl M.1.cls idx ci k t fin) (hd : decode M.2.1 pc = .ok (.getfield idx, 3)) (hs : σ.1[a]? = some (.inl (ci, fl))) (hk : fl[k]? = some none) (hki : (k : Int) = ki) (kk : z_Sem M nz (pc + 3) L (z_i (σ.2 a ki) :: st) σ Q) : z_Sem M nz pc L (z_r a :: st) σ Q := by
  subst hki
  exact z_getV (v := z_i (σ.2 a (k : Int))) hf hd hs (fun G => by simp [List.getElem?_mapIdx, hk, z_fld, z_cv]) (fun h => h a k) kk
theorem z_getR {idx ci k a r : Nat} {t : FieldType} {fin : Bool} {fl : List (Option (Option Nat))} (hf : z_fl M.1.cls idx ci k t fin) (hd : decode M.2.1 pc = .ok (.getfield idx, 3)) (hs : σ.1[a]? = some (.inl (ci, fl))) (hk : fl[k]? = some (some (some r))) (kk : z_Sem M nz (pc + 3) L (z_r r :: st) σ Q) : z_Sem M nz pc L (z_r a :: st) σ Q :=
  z_getV (v := z_r r) hf hd hs (fun G => by simp [List.getElem?_mapIdx, hk, z_fld, z_cv]) (fun _ => True.intro) kk
theorem z_Pset {G : z_G} {σ : z_S} {s : State} {H H1 : Heap} {locs locs1 : List Loc} {a : Nat} {c0 c : z_C} {f : Int → Int} (hP : z_P G σ s H locs) (hs : σ.1[a]? = some c0) (hf : ∀ j : Int, z_R (f j)) (h : va_P G.1 z_Cl ((z_ws G σ).set a (z_ad G a, z_cell G f c)) H1) (hS1 : va_S G.2.2.1 s.heap H1 locs1) : z_P G (z_u σ a c f) s H1 locs1 := by
  rw [z_ws_set hs] at h
  have ha := z_lt1000 hP hs
  obtain ⟨⟨h1, h2, h3, h4, h5, h6, h7⟩, h8⟩ := hP
  have hlen : (z_u σ a c f).1.length = σ.1.length := by simp [z_u]
  refine ⟨⟨h, by rw [hlen]; exact h2, fun b i => ?_, fun j hj => ?_, ?_, fun i hi => h6 i (by rw [← hlen]; exact hi), fun i j hi hj => h7 i j (by rw [← hlen]; exact hi) (by rw [← hlen]; exact hj)⟩, hS1⟩
  · show z_R ((if b = a then f else σ.2 b) i)
    split
    · exact hf i
    · exact h3 b i
  · show (if 1000 = a then f else σ.2 1000) (j : Int) = _
    rw [if_neg (by omega)]; exact h4 j hj
  · show (if 1001 = a then f else σ.2 1001) 0 = _
    rw [if_neg (by omega)]; exact h5
theorem z_fldset (G : z_G) (f : Int → Int) (fl : List (Option (Option Nat))) (k : Nat) (hk : fl[k]? = some none) (x : Int) : (fl.mapIdx (z_fld G f)).set k (.int (Int32.ofInt x)) = fl.mapIdx (z_fld G (fun j => if j = (k : Int) then x else f j)) := by
  apply List.ext_getElem?
  intro i
  have hl := (List.getElem?_eq_some_iff.mp hk).1
  by_cases hi : i = k
  · subst hi
    rw [List.getElem?_set_self (by simpa using hl)]
    simp [List.getElem?_mapIdx, hk, z_fld]
  · rw [List.getElem?_set_ne (Ne.symm hi)]
    simp only [List.getElem?_mapIdx]
    cases fl[i]? with
    | none => rfl
    | some o =>
      rcases o with _ | _ | r
      · have : ¬ ((i : Int) = (k : Int)) := by omega
        simp [z_fld, this]
      · rfl
      · rfl
theorem z_fldsetR (G : z_G) (f : Int → Int) (fl : List (Option (Option Nat))) (k : Nat) (hl : k < fl.length) (r : Nat) : (fl.mapIdx (z_fld G f)).set k (.ref (z_ad G r)) = (fl.set k (some (some r))).mapIdx (z_fld G f) := by
  apply List.ext_getElem?
  intro i
  by_cases hi : i = k
  · subst hi
    rw [List.getElem?_set_self (by simpa using hl)]
    simp [List.getElem?_mapIdx, hl, z_fld]
  · rw [List.getElem?_set_ne (Ne.symm hi)]
    simp only [List.getElem?_mapIdx, List.getElem?_set_ne (Ne.symm hi)]
theorem z_putV {idx ci k a : Nat} {t : FieldType} {x : Int} {fl : List (Option (Option Nat))} (hf : z_fl M.1.cls idx ci k t false) (hn : narrow t (.int (Int32.ofInt x)) = .int (Int32.ofInt x)) (hfit : fits t (.int (Int32.ofInt x)) = true) (hd : decode M.2.1 pc = .ok (.putfield idx, 3)) (hs : σ.1[a]? = some (.inl (ci, fl))) (hk : fl[k]? = some none) (kk : z_Sem M nz (pc + 3) L st (z_w σ a (k : Int) x) Q) : z_Sem M nz pc L (z_i x :: z_r a :: st) σ Q := by
  intro G p l e s m args below meth c Z H locs ls hX hZ hP hL hS hl hc
  obtain ⟨C, T, N, ty, ⟨c1, c2, c3, c4⟩, hkN, hfin, hty, hlink⟩ := hf
  rw [List.map_cons, List.map_cons, z_cvr hP hs]
  have hx : z_R x := (z_RvC hS).1
  have hl' : k < (fl.mapIdx (z_fld G (σ.2 a))).length := by simpa using (List.getElem?_eq_some_iff.mp hk).1
  have k2 : ∀ (H1 : Heap) (locs1 : List Loc), va_P G.1 z_Cl ((z_ws G σ).set a (z_ad G a, .inr (ci, (fl.mapIdx (z_fld G (σ.2 a))).set k (.int (Int32.ofInt x))))) H1 → va_D G.2.2.1 ((z_ws G σ).set a (z_ad G a, .inr (ci, (fl.mapIdx (z_fld G (σ.2 a))).set k (.int (Int32.ofInt x))))) → va_S G.2.2.1 s.heap H1 locs1 → W p l e M.2.2.2.2 s m args below meth c H1 locs1 nz.2 nz.2 Z (F0 m (pc + 3) ls (st.map (z_cv G))) := by
    intro H1 locs1 hP1 _ hS1
    rw [z_fldset G (σ.2 a) fl k hk x] at hP1
    have hP2 := z_Pset (c := .inl (ci, fl)) (f := fun j => if j = (k : Int) then x else σ.2 a j) hP hs (fun j => by split; exact hx; exact hP.1.2.2.1 a j) hP1 hS1
    rw [z_w_eq hs] at hP2
    exact kk G p l e s m args below meth c Z H1 locs1 ls hX hZ hP2 hL (z_RvC (z_RvC hS).2).2 hl hc
  rcases hlink with h | ⟨host, h⟩
  · exact va_put (ref := (T k).1) (index := idx) (ty := t) hX.1 hX.2.1 hX.2.2.2.2.2.1 c2 ty c3 c4 hX.2.2.2.2.1 hX.2.2.2.2.2.2.2.2.1 hP.1.1 (z_D hP.1) hP.2 a (z_ws_get hs) c1 k hkN (hX.2.2.2.2.2.1 _ h) (fun x hx => hx) hfin (by rw [c3 k hkN, hty]) hn hfit hl' hd k2
  · exact va_putN (ref := (T k).1) (index := idx) (ty := t) hX.1 hX.2.1 hX.2.2.2.2.2.1 c2 ty c3 c4 hX.2.2.2.2.1 hX.2.2.2.2.2.2.2.2.1 hP.1.1 (z_D hP.1) hP.2 a (z_ws_get hs) c1 k hkN ((hX.2.2.2.2.2.2.2.2.2.1.2.2.2.2.2.1 _ h).use rfl) (fun x hx => hx) hfin (by rw [c3 k hkN, hty]) hn hfit hl' hd k2
theorem z_putI {idx ci k a : Nat} {x ki : Int} {fl : List (Option (Option Nat))} (hf : z_fl M.1.cls idx ci k .int false) (hd : decode M.2.1 pc = .ok (.putfield idx, 3)) (hs : σ.1[a]? = some (.inl (ci, fl))) (hk : fl[k]? = some none) (hki : (k : Int) = ki) (kk : z_Sem M nz (pc + 3) L st (z_w σ a ki x) Q) : z_Sem M nz pc L (z_i x :: z_r a :: st) σ Q := by
  subst hki
  exact z_putV hf rfl rfl hd hs hk kk
theorem z_01 {x : Int} (h : 0 ≤ x ∧ x ≤ 1) : x = 0 ∨ x = 1 := by omega
theorem z_putZ {idx ci k a : Nat} {x ki : Int} {fl : List (Option (Option Nat))} (hf : z_fl M.1.cls idx ci k .boolean false) (hd : decode M.2.1 pc = .ok (.putfield idx, 3)) (hs : σ.1[a]? = some (.inl (ci, fl))) (hk : fl[k]? = some none) (hki : (k : Int) = ki) (hx : 0 ≤ x ∧ x ≤ 1) (kk : z_Sem M nz (pc + 3) L st (z_w σ a ki x) Q) : z_Sem M nz pc L (z_i x :: z_r a :: st) σ Q := by
  subst hki
  refine z_putV hf ?_ ?_ hd hs hk kk
  · rcases z_01 hx with rfl | rfl <;> decide
  · rcases z_01 hx with rfl | rfl <;> decide
def z_fo (own : String) (idx ci k : Nat) (t : FieldType) (fin : Bool) : Prop := ∃ (C : String) (T : u_T) (N : Nat) (ty : Nat → FieldType), z_cls ci C T N ty ∧ k < N ∧ (T k).1 = own ∧ (T k).2.2.2 = fin ∧ ty k = t ∧ Cond.fieldLink own idx (T k).1 (T k).2.1 (T k).2.2.1 ∈ z_tb
theorem z_fo.fl {own : String} {idx ci k : Nat} {t : FieldType} {fin : Bool} (h : z_fo own idx ci k t fin) : z_fl own idx ci k t fin := by
  obtain ⟨C, T, N, ty, h1, h2, h3, h4, h5, h6⟩ := h
  exact ⟨C, T, N, ty, h1, h2, h4, h5, Or.inl h6⟩
/-- a reference into a field, final or not -/
theorem z_putR {idx ci k a r : Nat} {t : FieldType} {fin : Bool} {fl : List (Option (Option Nat))} (hf : z_fo M.1.cls idx ci k t fin) (hin : fin = true → M.1.name = "<init>") (ht : ∀ b, narrow t (.ref b) = .ref b ∧ fits t (.ref b) = true) (hd : decode M.2.1 pc = .ok (.putfield idx, 3)) (hs : σ.1[a]? = some (.inl (ci, fl))) (hk : k < fl.length) (kk : z_Sem M nz (pc + 3) L st (z_u σ a (.inl (ci, fl.set k (some (some r)))) (σ.2 a)) Q) : z_Sem M nz pc L (z_r r :: z_r a :: st) σ Q := by
  intro G p l e s m args below meth c Z H locs ls hX hZ hP hL hS hl hc
  obtain ⟨C, T, N, ty, ⟨c1, c2, c3, c4⟩, hkN, hC, hfin, hty, h⟩ := hf
  rw [List.map_cons, List.map_cons, z_cvr hP hs]
  have hl' : k < (fl.mapIdx (z_fld G (σ.2 a))).length := by simpa using hk
  have k2 : ∀ (H1 : Heap) (locs1 : List Loc), va_P G.1 z_Cl ((z_ws G σ).set a (z_ad G a, .inr (ci, (fl.mapIdx (z_fld G (σ.2 a))).set k (z_cv G (z_r r))))) H1 → va_D G.2.2.1 ((z_ws G σ).set a (z_ad G a, .inr (ci, (fl.mapIdx (z_fld G (σ.2 a))).set k (z_cv G (z_r r))))) → va_S G.2.2.1 s.heap H1 locs1 → W p l e M.2.2.2.2 s m args below meth c H1 locs1 nz.2 nz.2 Z (F0 m (pc + 3) ls (st.map (z_cv G))) := by
    intro H1 locs1 hP1 _ hS1
    rw [show z_cv G (z_r r) = .ref (z_ad G r) from rfl, z_fldsetR G (σ.2 a) fl k hk r] at hP1
    have hP2 := z_Pset (c := .inl (ci, fl.set k (some (some r)))) (f := σ.2 a) hP hs (fun j => hP.1.2.2.1 a j) hP1 hS1
    exact kk G p l e s m args below meth c Z H1 locs1 ls hX hZ hP2 hL (z_RvC (z_RvC hS).2).2 hl (by simpa [z_u] using hc)
  cases fin with
  | true => exact va_putF (ref := (T k).1) (index := idx) (ty := t) hX.1 hX.2.1 hX.2.2.2.2.2.1 c2 ty c3 c4 hX.2.2.2.2.1 hX.2.2.2.2.2.2.2.2.1 hP.1.1 (z_D hP.1) hP.2 a (z_ws_get hs) c1 k hkN (hX.2.2.2.2.2.1 _ h) (fun x hx => hx) hfin (hX.2.2.2.2.2.2.2.1 (hin rfl)) hC (by rw [c3 k hkN, hty]) (ht _).1 (ht _).2 hl' hd k2
  | false => exact va_put (ref := (T k).1) (index := idx) (ty := t) hX.1 hX.2.1 hX.2.2.2.2.2.1 c2 ty c3 c4 hX.2.2.2.2.1 hX.2.2.2.2.2.2.2.2.1 hP.1.1 (z_D hP.1) hP.2 a (z_ws_get hs) c1 k hkN (hX.2.2.2.2.2.1 _ h) (fun x hx => hx) hfin (by rw [c3 k hkN, hty]) (ht _).1 (ht _).2 hl' hd k2
/-- a number into a final field -/
theorem z_putVF {idx ci k a : Nat} {t : FieldType} {x : Int} {fl : List (Option (Option Nat))} (hf : z_fo M.1.cls idx ci k t true) (hin : M.1.name = "<init>") (hn : narrow t (.int (Int32.ofInt x)) = .int (Int32.ofInt x)) (hfit : fits t (.int (Int32.ofInt x)) = true) (hd : decode M.2.1 pc = .ok (.putfield idx, 3)) (hs : σ.1[a]? = some (.inl (ci, fl))) (hk : fl[k]? = some none) (kk : z_Sem M nz (pc + 3) L st (z_w σ a (k : Int) x) Q) : z_Sem M nz pc L (z_i x :: z_r a :: st) σ Q := by
  intro G p l e s m args below meth c Z H locs ls hX hZ hP hL hS hl hc
  obtain ⟨C, T, N, ty, ⟨c1, c2, c3, c4⟩, hkN, hC, hfin, hty, h⟩ := hf
  rw [List.map_cons, List.map_cons, z_cvr hP hs]
  have hx : z_R x := (z_RvC hS).1
  have hl' : k < (fl.mapIdx (z_fld G (σ.2 a))).length := by simpa using (List.getElem?_eq_some_iff.mp hk).1
  refine va_putF (ref := (T k).1) (index := idx) (ty := t) hX.1 hX.2.1 hX.2.2.2.2.2.1 c2 ty c3 c4 hX.2.2.2.2.1 hX.2.2.2.2.2.2.2.2.1 hP.1.1 (z_D hP.1) hP.2 a (z_ws_get hs) c1 k hkN (hX.2.2.2.2.2.1 _ h) (fun x hx => hx) hfin (hX.2.2.2.2.2.2.2.1 hin) hC (by rw [c3 k hkN, hty]) hn hfit hl' hd ?_
  intro H1 locs1 hP1 _ hS1
  rw [show z_cv G (z_i x) = .int (Int32.ofInt x) from rfl, z_fldset G (σ.2 a) fl k hk x] at hP1
  have hP2 := z_Pset (c := .inl (ci, fl)) (f := fun j => if j = (k : Int) then x else σ.2 a j) hP hs (fun j => by split; exact hx; exact hP.1.2.2.1 a j) hP1 hS1
  rw [z_w_eq hs] at hP2
  exact kk G p l e s m args below meth c Z H1 locs1 ls hX hZ hP2 hL (z_RvC (z_RvC hS).2).2 hl hc
/-! rows of numbers -/
theorem z_upd (f : Int → Int) {i x : Int} (h0 : 0 ≤ i) : upd (fun j : Nat => Int32.ofInt (f (j : Int))) i.toNat (Int32.ofInt x) = fun j : Nat => Int32.ofInt ((fun j : Int => if j = i then x else f j) (j : Int)) := by
  funext j
  simp only [upd]
  by_cases hj : j = i.toNat
  · rw [if_pos hj, if_pos (by omega)]
  · rw [if_neg hj, if_neg (by omega)]
theorem z_iald {a n : Nat} {i : Int} (hd : decode M.2.1 pc = .ok (.iaload, 1)) (hs : σ.1[a]? = some (.inr (.inl (0, n)))) (hi : 0 ≤ i ∧ i < (n : Int)) (kk : z_Sem M nz (pc + 1) L (z_i (σ.2 a i) :: st) σ Q) : z_Sem M nz pc L (z_i i :: z_r a :: st) σ Q := by
  intro G p l e s m args below meth c Z H locs ls hX hZ hP hL hS hl hc
  rw [List.map_cons, List.map_cons, z_cvr hP hs]
  have hi' : z_R i := (z_RvC hS).1
  refine va_iald hX.1 hX.2.1 hX.2.2.2.2.2.2.2.2.1 hP.1.1 a 0 (z_ws_get hs) rfl (z_in hi' hi.1 hi.2) hd ?_
  have h1 := kk G p l e s m args below meth c Z H locs ls hX hZ hP hL (z_RvI (hP.1.2.2.1 a i) (z_RvC (z_RvC hS).2).2) hl hc
  rw [z_clamp hi', show ((i.toNat : Nat) : Int) = i by omega]
  exact h1
theorem z_bald {a n : Nat} {i : Int} (hd : decode M.2.1 pc = .ok (.baload, 1)) (hs : σ.1[a]? = some (.inr (.inl (2, n)))) (hi : 0 ≤ i ∧ i < (n : Int)) (kk : z_Sem M nz (pc + 1) L (z_i (σ.2 a i) :: st) σ Q) : z_Sem M nz pc L (z_i i :: z_r a :: st) σ Q := by
  intro G p l e s m args below meth c Z H locs ls hX hZ hP hL hS hl hc
  rw [List.map_cons, List.map_cons, z_cvr hP hs]
  have hi' : z_R i := (z_RvC hS).1
  refine va_bald hX.1 hX.2.1 hX.2.2.2.2.2.2.2.2.1 hP.1.1 a 2 (z_ws_get hs) rfl (z_in hi' hi.1 hi.2) hd ?_
  have h1 := kk G p l e s m args below meth c Z H locs ls hX hZ hP hL (z_RvI (hP.1.2.2.1 a i) (z_RvC (z_RvC hS).2).2) hl hc
  rw [z_clamp hi', show ((i.toNat : Nat) : Int) = i by omega]
  exact h1
theorem z_zald {a n : Nat} {i : Int} (hd : decode M.2.1 pc = .ok (.baload, 1)) (hs : σ.1[a]? = some (.inr (.inl (1, n)))) (hi : 0 ≤ i ∧ i < (n : Int)) (kk : z_Sem M nz (pc + 1) L (z_i (σ.2 a i) :: st) σ Q) : z_Sem M nz pc L (z_i i :: z_r a :: st) σ Q := by
  intro G p l e s m args below meth c Z H locs ls hX hZ hP hL hS hl hc
  rw [List.map_cons, List.map_cons, z_cvr hP hs]
  have hi' : z_R i := (z_RvC hS).1
  refine va_zald hX.1 hX.2.1 hX.2.2.2.2.2.2.2.2.1 hP.1.1 a 1 (z_ws_get hs) rfl (z_in hi' hi.1 hi.2) hd ?_
  have h1 := kk G p l e s m args below meth c Z H locs ls hX hZ hP hL (z_RvI (hP.1.2.2.1 a i) (z_RvC (z_RvC hS).2).2) hl hc
  rw [z_clamp hi', show ((i.toNat : Nat) : Int) = i by omega]
  exact h1
theorem z_astG {a n kd : Nat} {i x : Int} (hs : σ.1[a]? = some (.inr (.inl (kd, n)))) (hi : 0 ≤ i) {G : z_G} {s : State} {H H1 : Heap} {locs locs1 : List Loc} (hP : z_P G σ s H locs) (hx : z_R x)
    (h : va_P G.1 z_Cl ((z_ws G σ).set a (z_ad G a, .inl (G.2.1 kd, n, .inl (upd (fun j : Nat => Int32.ofInt (σ.2 a (j : Int))) i.toNat (Int32.ofInt x))))) H1) (hS1 : va_S G.2.2.1 s.heap H1 locs1) : z_P G (z_w σ a i x) s H1 locs1 := by
  rw [z_upd (σ.2 a) hi] at h
  have hP2 := z_Pset (c := .inr (.inl (kd, n))) (f := fun j => if j = i then x else σ.2 a j) hP hs (fun j => by split; exact hx; exact hP.1.2.2.1 a j) h hS1
  rw [z_w_eq hs] at hP2
  exact hP2
theorem z_iast {a n : Nat} {i x : Int} (hd : decode M.2.1 pc = .ok (.iastore, 1)) (hs : σ.1[a]? = some (.inr (.inl (0, n)))) (hi : 0 ≤ i ∧ i < (n : Int)) (kk : z_Sem M nz (pc + 1) L st (z_w σ a i x) Q) : z_Sem M nz pc L (z_i x :: z_i i :: z_r a :: st) σ Q := by
  intro G p l e s m args below meth c Z H locs ls hX hZ hP hL hS hl hc
  rw [List.map_cons, List.map_cons, List.map_cons, z_cvr hP hs]
  have hx' : z_R x := (z_RvC hS).1
  have hi' : z_R i := (z_RvC (z_RvC hS).2).1
  refine va_iast hX.1 hX.2.1 hX.2.2.2.2.2.2.2.2.1 hP.1.1 (z_D hP.1) hP.2 a 0 (z_ws_get hs) rfl (z_in hi' hi.1 hi.2) hd (fun H1 locs1 hP1 _ hS1 => ?_)
  rw [z_clamp hi'] at hP1
  exact kk G p l e s m args below meth c Z H1 locs1 ls hX hZ (z_astG hs hi.1 hP hx' hP1 hS1) hL (z_RvC (z_RvC (z_RvC hS).2).2).2 hl hc
theorem z_bast {a n : Nat} {i x : Int} (hd : decode M.2.1 pc = .ok (.bastore, 1)) (hs : σ.1[a]? = some (.inr (.inl (2, n)))) (hi : 0 ≤ i ∧ i < (n : Int)) (hx : z_i2bv x = x) (kk : z_Sem M nz (pc + 1) L st (z_w σ a i x) Q) : z_Sem M nz pc L (z_i x :: z_i i :: z_r a :: st) σ Q := by
  intro G p l e s m args below meth c Z H locs ls hX hZ hP hL hS hl hc
  rw [List.map_cons, List.map_cons, List.map_cons, z_cvr hP hs]
  have hx' : z_R x := (z_RvC hS).1
  have hi' : z_R i := (z_RvC (z_RvC hS).2).1
  refine va_bast hX.1 hX.2.1 hX.2.2.2.2.2.2.2.2.1 hP.1.1 (z_D hP.1) hP.2 a 2 (z_ws_get hs) rfl (z_in hi' hi.1 hi.2) hd (fun H1 locs1 hP1 _ hS1 => ?_)
  have hv : vp_nar .byte (Int32.ofInt x) = Int32.ofInt x := by
    show (Int32.ofInt x).toInt8.toInt32 = _
    apply Int32.toInt_inj.mp
    rw [z_toInt hx']
    exact hx
  rw [z_clamp hi', hv] at hP1
  exact kk G p l e s m args below meth c Z H1 locs1 ls hX hZ (z_astG hs hi.1 hP hx' hP1 hS1) hL (z_RvC (z_RvC (z_RvC hS).2).2).2 hl hc
theorem z_zast {a n : Nat} {i x : Int} (hd : decode M.2.1 pc = .ok (.bastore, 1)) (hs : σ.1[a]? = some (.inr (.inl (1, n)))) (hi : 0 ≤ i ∧ i < (n : Int)) (hx : 0 ≤ x ∧ x ≤ 1) (kk : z_Sem M nz (pc + 1) L st (z_w σ a i x) Q) : z_Sem M nz pc L (z_i x :: z_i i :: z_r a :: st) σ Q := by
  intro G p l e s m args below meth c Z H locs ls hX hZ hP hL hS hl hc
  rw [List.map_cons, List.map_cons, List.map_cons, z_cvr hP hs]
  have hx' : z_R x := (z_RvC hS).1
  have hi' : z_R i := (z_RvC (z_RvC hS).2).1
  refine va_zast hX.1 hX.2.1 hX.2.2.2.2.2.2.2.2.1 hP.1.1 (z_D hP.1) hP.2 a 1 (z_ws_get hs) rfl (z_in hi' hi.1 hi.2) hd (fun H1 locs1 hP1 _ hS1 => ?_)
  have hv : vp_nar .boolean (Int32.ofInt x) = Int32.ofInt x := by rcases z_01 hx with rfl | rfl <;> decide
  rw [z_clamp hi', hv] at hP1
  exact kk G p l e s m args below meth c Z H1 locs1 ls hX hZ (z_astG hs hi.1 hP hx' hP1 hS1) hL (z_RvC (z_RvC (z_RvC hS).2).2).2 hl hc
theorem z_aald {a r : Nat} {rs : List (Option Nat)} {i : Int} (hd : decode M.2.1 pc = .ok (.aaload, 1)) (hs : σ.1[a]? = some (.inr (.inr rs))) (h0 : 0 ≤ i) (hr : rs[i.toNat]? = some (some r)) (kk : z_Sem M nz (pc + 1) L (z_r r :: st) σ Q) : z_Sem M nz pc L (z_i i :: z_r a :: st) σ Q := by
  intro G p l e s m args below meth c Z H locs ls hX hZ hP hL hS hl hc
  rw [List.map_cons, List.map_cons, z_cvr hP hs]
  have hi' : z_R i := (z_RvC hS).1
  have hlt := (List.getElem?_eq_some_iff.mp hr).1
  refine va_aldq hX.1 hX.2.1 hX.2.2.2.2.2.2.2.2.1 hP.1.1 a 3 (z_ws_get hs) rfl (z_in hi' h0 (by omega)) hd ?_
  have h1 := kk G p l e s m args below meth c Z H locs ls hX hZ hP hL (z_RvN (z_RvC (z_RvC hS).2).2) hl hc
  rw [z_clamp hi', List.getD_eq_getElem?_getD, hr]
  exact h1
theorem z_alen {a n : Nat} {kd : Nat} (hd : decode M.2.1 pc = .ok (.arraylength, 1)) (hk : kd < 3) (hs : σ.1[a]? = some (.inr (.inl (kd, n)))) (hn : z_R (n : Int)) (kk : z_Sem M nz (pc + 1) L (z_i (n : Int) :: st) σ Q) : z_Sem M nz pc L (z_r a :: st) σ Q := by
  intro G p l e s m args below meth c Z H locs ls hX hZ hP hL hS hl hc
  rw [List.map_cons, z_cvr hP hs]
  have h1 := kk G p l e s m args below meth c Z H locs ls hX hZ hP hL (z_RvI hn (z_RvC hS).2) hl hc
  have ht : ∃ ty, (z_tys G)[kd]? = some (G.2.1 kd, ty) := by
    match kd, hk with
    | 0, _ => exact ⟨_, rfl⟩
    | 1, _ => exact ⟨_, rfl⟩
    | 2, _ => exact ⟨_, rfl⟩
  obtain ⟨ty, ht⟩ := ht
  exact va_alen hX.1 hX.2.1 hX.2.2.2.2.2.2.2.2.1 hP.1.1 a kd (z_ws_get hs) ht (v := Int32.ofInt (n : Int)) rfl hd h1
/-- the script -/
theorem z_sald {i : Int} (hd : decode M.2.1 pc = .ok (.iaload, 1)) (hi : 0 ≤ i ∧ i < σ.2 1001 0) (kk : z_Sem M nz (pc + 1) L (z_i (σ.2 1000 i) :: st) σ Q) : z_Sem M nz pc L (z_i i :: z_r 1000 :: st) σ Q := by
  intro G p l e s m args below meth c Z H locs ls hX hZ hP hL hS hl hc
  have hi' : z_R i := (z_RvC hS).1
  have hO := hX.2.2.2.2.2.2.2.2.2.1
  have hi2 := hi.2
  rw [hP.1.2.2.2.2.1] at hi2
  have hb : z_ad G 1000 < s.heap.size := by
    obtain ⟨scr, e1, -⟩ := hO.1.1
    exact (Array.getElem?_eq_some_iff.mp e1).1
  refine va_sld hX.1 hX.2.1 hO.1.1 hb hO.1.2 hP.2 (z_in hi' hi.1 hi2) hd ?_
  have h1 := kk G p l e s m args below meth c Z H locs ls hX hZ hP hL (z_RvI (hP.1.2.2.1 1000 i) (z_RvC (z_RvC hS).2).2) hl hc
  have h2 := hP.1.2.2.2.1 i.toNat (by omega)
  rw [show ((i.toNat : Nat) : Int) = i by omega] at h2
  rw [z_clamp hi', ← Int32.ofInt_toInt (G.2.2.2.2.2 i.toNat), ← h2]
  exact h1
theorem z_slen (hd : decode M.2.1 pc = .ok (.arraylength, 1)) (kk : z_Sem M nz (pc + 1) L (z_i (σ.2 1001 0) :: st) σ Q) : z_Sem M nz pc L (z_r 1000 :: st) σ Q := by
  intro G p l e s m args below meth c Z H locs ls hX hZ hP hL hS hl hc
  have hO := hX.2.2.2.2.2.2.2.2.2.1
  have hb : z_ad G 1000 < s.heap.size := by
    obtain ⟨scr, e1, -⟩ := hO.1.1
    exact (Array.getElem?_eq_some_iff.mp e1).1
  refine va_slen hX.1 hX.2.1 hO.1.1 hb hO.1.2 hP.2 hd ?_
  have h1 := kk G p l e s m args below meth c Z H locs ls hX hZ hP hL (z_RvI (hP.1.2.2.1 1001 0) (z_RvC hS).2) hl hc
  rw [show Int32.ofNat G.2.2.2.2.1 = Int32.ofInt (σ.2 1001 0) by rw [hP.1.2.2.2.2.1]; rfl]
  exact h1
end ZRULES2
end
section
/-! CALLS: a point at a method's first instruction gives a contract ('Met'), a contract is called. -/
def z_c1 : z_V → Prop
  | .inr (.inr (.inl _)) => False
  | .inr (.inr (.inr (.inl _))) => False
  | _ => True
def z_la : Nat → List z_V → List (Nat × z_V)
  | _, [] => []
  | i, v :: vs => (i, v) :: z_la (i + 1) vs
theorem z_la_args (G : z_G) : ∀ (vs : List z_V) (i : Nat), (∀ v ∈ vs, z_c1 v) → lv_args i (vs.map (z_cv G)) = z_lo G (z_la i vs)
  | [], _, _ => rfl
  | v :: vs, i, h => by
    have h1 : (z_cv G v).category ≠ 2 := by
      have := h v List.mem_cons_self
      rcases v with x | x | x | x | (_ | x) <;> first | exact False.elim this | (intro q; cases q)
    simp only [List.map_cons, lv_args, z_la, z_lo, if_neg h1]
    congr 1
    exact z_la_args G vs (i + 1) (fun q hq => h q (List.mem_cons_of_mem _ hq))
theorem z_sl_len (G : z_G) : ∀ (vs : List z_V), (∀ v ∈ vs, z_c1 v) → (lg_sl (vs.map (z_cv G))).length = vs.length
  | [], _ => rfl
  | v :: vs, h => by
    have h1 : (z_cv G v).category ≠ 2 := by
      have := h v List.mem_cons_self
      rcases v with x | x | x | x | (_ | x) <;> first | exact False.elim this | (intro q; cases q)
    have ih := z_sl_len G vs (fun q hq => h q (List.mem_cons_of_mem _ hq))
    simp only [lg_sl, List.map_cons, List.flatMap_cons, if_neg h1, List.length_append, List.length_cons, List.length_nil] at ih ⊢
    omega
theorem z_la_mem : ∀ (vs : List z_V) (i : Nat), ∀ q ∈ z_la i vs, q.2 ∈ vs
  | [], _, q, h => by cases h
  | v :: vs, i, q, h => by
    rcases List.mem_cons.mp h with rfl | h
    · exact List.mem_cons_self
    · exact List.mem_cons_of_mem _ (z_la_mem vs (i + 1) q h)
/-- the words that a method is handed -/
def z_wd (M : z_M) : List Cond := Cond.code M.1 M.2.1 M.2.2.1 M.2.2.2.1 :: z_tb
def z_Pc (G : z_G) (σ : z_S) (vs : List z_V) : Array Value → State → Prop := fun a U =>
  a = (vs.map (z_cv G)).toArray ∧ va_K G.1 z_Cl (z_tys G) U ∧ z_O G U U.heap ∧ (∀ q : Nat, U.heap.size ≤ q → G.2.2.1 q) ∧ z_P0 G σ U.heap
def z_Qc (G : z_G) (c0 n0 : Nat) (Q : Option z_V → z_S → Prop) : Array Value → State → Outcome → State → Prop := fun _ st oc t =>
  (∃ (G' : z_G) (v : Option z_V) (σ' : z_S), z_ag c0 n0 G G' ∧ oc = .returned (v.map (z_cv G')) ∧ Q v σ' ∧ (∀ x, v = some x → z_Rv x) ∧ n0 ≤ σ'.1.length ∧ z_P0 G' σ' t.heap) ∧ va_F G.2.2.1 st t
theorem z_blind (G : z_G) (σ : z_S) (vs : List z_V) : FrameBlind (z_Pc G σ vs) := by
  intro a U g mk h
  obtain ⟨h1, h2, h3, h4, h5⟩ := h
  exact ⟨h1, va_K.moved (u := U) (U := U.calling g mk a) (Vm.Alike.refl U.vm) h2, z_O.same (u := U) (U := U.calling g mk a) rfl h3, h4, h5⟩
theorem z_retW {G : z_G} {M : z_M} {n0 : Nat} {p : Program} {l : Launch} {e : Env} {s : State} {m : MethodId} {args : Array Value} {below : List Frame} {meth : Method} {c : Code} {Q : Option z_V → z_S → Prop} (hX : z_X G M n0 p s m args meth c) : z_Z G M n0 p l e s m args below meth c (MQ below (z_Qc G M.2.2.2.2.cells n0 Q) args s M.2.2.2.2.cells M.2.2.2.2.slots G.2.2.1) Q := by
  intro G' v σ' H' locs' z' pc ls' ins hag hQ hP hv hlen hz hr hd
  have hown : G'.2.2.1 = G.2.2.1 := by obtain ⟨f, rfl, -⟩ := hag; rfl
  have hP2 := hP.2
  rw [hown] at hP2
  have hq : ∀ (t : State), t.heap = H' → z_Qc G M.2.2.2.2.cells n0 Q args s (.returned (v.map (z_cv G'))) t := fun t ht => ⟨⟨G', v, σ', hag, rfl, hQ, hv, hlen, by rw [ht]; exact hP.1⟩, by rw [va_F, ht]; exact ⟨hP2.1, hP2.2.1⟩⟩
  refine W.widen hz.1 hz.2 ?_
  have hrt := hX.2.2.1
  have hlk := hX.2.2.2.2.2.2.1
  rcases v with _ | x | x | x | x | x
  · obtain ⟨h1, rfl⟩ := hr
    exact W.vret hX.1 hX.2.1 (hrt.trans h1) (fun t ht _ => hq t ht) hP2.2.2 hd hlk
  · obtain ⟨rfl, h1 | ⟨h1, h2⟩ | ⟨h1, h2⟩ | ⟨h1, h2⟩⟩ := hr
    · exact W.iret hX.1 hX.2.1 (hrt.trans h1) (fun t ht _ => hq t ht) hP2.2.2 hd hlk
    · exact W.zret hX.1 hX.2.1 (hrt.trans h1) (by rcases z_01 h2 with rfl | rfl <;> decide) (fun t ht _ => hq t ht) hP2.2.2 hd hlk
    · have hx : z_R x := ⟨by omega, by omega⟩
      refine W.zret hX.1 hX.2.1 (hrt.trans h1) ?_ (fun t ht _ => hq t ht) hP2.2.2 hd hlk
      show Value.int _ = Value.int _
      congr 1
      apply Int32.toInt_inj.mp
      have e : (Int32.ofInt x).toUInt32.toNat = x.toNat := by
        have h3 := z_toInt hx
        have h4 : (Int32.ofInt x).toInt = ((Int32.ofInt x).toUInt32.toNat : Int) := by
          have := Int32.toInt_toBitVec (Int32.ofInt x)
          rw [← this, BitVec.toInt_eq_toNat_of_lt]
          · rfl
          · rw [← Int32.toInt_toBitVec, BitVec.toInt] at h3
            have := (Int32.ofInt x).toBitVec.isLt
            split at h3 <;> omega
        omega
      have e2 : (Int32.ofInt x).toUInt32.toUInt16.toUInt32 = (Int32.ofInt x).toUInt32 := by
        apply UInt32.toNat_inj.mp
        rw [UInt16.toNat_toUInt32, UInt32.toNat_toUInt16, e]
        exact Nat.mod_eq_of_lt (by show x.toNat < 2 ^ 16; omega)
      rw [e2]
      simp
    · have hx : z_R x := ⟨by omega, by omega⟩
      refine W.zret hX.1 hX.2.1 (hrt.trans h1) ?_ (fun t ht _ => hq t ht) hP2.2.2 hd hlk
      show Value.int (Int32.ofInt x).toInt8.toInt32 = Value.int _
      congr 1
      apply Int32.toInt_inj.mp
      rw [z_toInt hx]
      simp
      rw [show Int8.size = 256 from rfl]
      exact Int.bmod_eq_of_le (by omega) (by omega)
  · obtain ⟨rfl, t0, h1, h2⟩ := hr
    exact W.aret hX.1 hX.2.1 (hrt.trans h1) h2 (Or.inr ⟨_, rfl⟩) (fun t ht _ => hq t ht) hP2.2.2 hd hlk
  · obtain ⟨rfl, h1⟩ := hr
    exact W.fret hX.1 hX.2.1 (hrt.trans h1) (fun t ht _ => hq t ht) hP2.2.2 hd hlk
  · obtain ⟨rfl, h1⟩ := hr
    exact W.dret hX.1 hX.2.1 (hrt.trans h1) (fun t ht _ => hq t ht) hP2.2.2 hd hlk
  · exact hr.elim
theorem z_met {M : z_M} {vs : List z_V} {σ : z_S} {Q : Option z_V → z_S → Prop} (h : z_Sem M (σ.1.length, 0) 0 (z_la 0 vs) [] σ Q) (hy : plainFor M.1 = true) (h1 : ∀ v ∈ vs, z_c1 v) (h2 : vs.length ≤ M.2.2.1) (hr : ∀ v ∈ vs, z_Rv v) (l : Launch) (G : z_G) :
    Met l M.1 (z_wd M) M.2.2.2.2 (z_Pc G σ vs) (z_Qc G M.2.2.2.2.cells σ.1.length Q) M.2.2.2.2.cells M.2.2.2.2.slots G.2.2.1 := by
  refine va_MetF (cc := M.2.1) (maxL := M.2.2.1) (ret := M.2.2.2.1) hy rfl ?_
  intro p e s m args below meth c s₁ B hml hv
  obtain ⟨rfl, hK, hO, hb1, hP⟩ := hv
  have hts := atoms_spec (ws := z_wd M) B.pre
  have hX : z_X G M σ.1.length p s m (vs.map (z_cv G)).toArray meth c := ⟨B.exec, B.bytes, B.returns, hml, findClass_of_methodNamed B.named, fun w hw => hts w (List.mem_cons_of_mem _ hw), B.notSynchronized, fun hi => by rw [(name_of_methodNamed B.named B.method).1]; exact hi, hK, hO, hb1⟩
  have hl := lv_entry (vs.map (z_cv G)) (n := M.2.2.1) (by rw [z_sl_len G vs h1]; exact h2)
  rw [lg_entry_eq]
  generalize (lg_sl (vs.map (z_cv G)) ++ List.replicate (M.2.2.1 - (lg_sl (vs.map (z_cv G))).length) Slot.unset).toArray = ls at hl ⊢
  rw [z_la_args G vs 0 h1] at hl
  exact h G p l e s m _ below meth c _ s.heap [] ls hX (z_retW hX) ⟨hP, va_S.rf⟩ (fun q hq => hr _ (z_la_mem vs 0 q hq)) (fun q hq => by cases hq) hl ⟨Nat.le_refl _, Nat.zero_le _, Nat.zero_le _⟩
section ZCALL
variable {p : Program} {l : Launch} {e : Env} {R : Room} {s : State} {m : MethodId} {args : Array Value} {below : List Frame} {meth : Method} {c : Code} {H : Heap} {locs : List Loc} {cells slots mc ms : Nat} {Z : State → Prop}
theorem z_after {G : z_G} {A : Nat → Prop} {c0 n0 pc : Nat} {ls : Array Slot} {rest st0 : List Value} {a : Array Value} {Q' : Option z_V → z_S → Prop} (hr : va_Run p l e R s m args below meth c H locs cells slots mc ms (F0 m pc ls st0) rest (z_Qc G c0 n0 Q' a) G.2.2.1) (hS : va_S A s.heap H locs) (hsub : ∀ q, G.2.2.1 q → A q)
    (kk : ∀ (G' : z_G) (v : Option z_V) (σ' : z_S) (H1 : Heap) (locs1 : List Loc), z_ag c0 n0 G G' → Q' v σ' → (∀ x, v = some x → z_Rv x) → n0 ≤ σ'.1.length → z_P0 G' σ' H1 → (∀ q : Nat, q < H.size → ¬ G.2.2.1 q → H1[q]? = H[q]?) → H.size ≤ H1.size → va_S A s.heap H1 locs1 → W p l e R s m args below meth c H1 locs1 (cells + mc) (slots + ms) Z (F0 m (pc + 3) ls ((v.map (z_cv G')).toList ++ rest))) : W p l e R s m args below meth c H locs cells slots Z (F0 m pc ls st0) := by
  intro T hT X
  obtain ⟨v, st₀, t, T', L, h0, X', hL, e1, e2, ⟨⟨G', v', σ', hag, hv, hp, hrg, hn, hb⟩, hz, hk⟩, st⟩ := hr T hT X
  cases hv
  rw [h0] at hz hk
  obtain ⟨t2, a1, b1⟩ := kk G' v' σ' T'.heap (locs ++ L) hag hp hrg hn (by rw [e1]; exact hb) (fun q h1 h2 => by rw [e1]; exact hk q h1 h2) (by rw [e1]; exact hz) ⟨Nat.le_trans hS.1 (by rw [e1]; exact hz), fun q h1 h2 => by rw [e1, hk q (Nat.lt_of_lt_of_le h1 hS.1) (fun h3 => h2 (hsub q h3))]; exact hS.2.1 q h1 h2, fun q hq => by
      rcases List.mem_append.mp hq with h | h
      · exact hS.2.2 q h
      · exact hsub _ (hL q h)⟩ T' rfl X'
  exact ⟨t2, st t2 a1, b1⟩
end ZCALL
/-- a callee that a table row speaks of: its words, how many arguments (without the receiver) -/
def z_me (M : z_M) (n : Nat) : Prop := Cond.code M.1 M.2.1 M.2.2.1 M.2.2.2.1 ∈ z_tb ∧ Cond.initialized M.1.cls ∈ z_tb ∧ (M.1.cls ≠ "java/lang/invoke/MethodHandle" ∧ M.1.cls ≠ "java/lang/invoke/VarHandle") ∧ (parseMethodDescriptor M.1.desc).map (fun d => d.parameters.length) = some n ∧ plainFor M.1 = true
/-- the room that a call wants -/
abbrev z_rm (M M' : z_M) : Prop := M'.2.2.2.2.frames + 1 ≤ M.2.2.2.2.frames ∧ 8 + (M'.2.2.1 + 11) + M'.2.2.2.2.locals ≤ M.2.2.2.2.locals
def z_wds (st : List z_V) : Nat := (st.map fun v => if z_c2 v then 2 else 1).sum
theorem z_wds_cat (G : z_G) (st : List z_V) : ((st.map (z_cv G)).map fun v => v.category).sum = z_wds st := by
  unfold z_wds
  rw [List.map_map]
  congr 1
  apply List.map_congr_left
  intro v _
  rcases v with x | x | x | x | (_ | x) <;> rfl
theorem z_pre {G : z_G} {M : z_M} {n0 : Nat} {p : Program} {s : State} {m : MethodId} {args : Array Value} {meth : Method} {c : Code} {H : Heap} {locs : List Loc} {σ : z_S} (hX : z_X G M n0 p s m args meth c) (hP : z_P G σ s H locs) (vs : List z_V) (U : State) (hU : U.heap = H) (hW : s.WarmedH U.vm) : z_Pc G σ vs (vs.map (z_cv G)).toArray U := by
  obtain ⟨-, -, -, -, -, -, -, -, hK, hO, hb⟩ := hX
  refine ⟨rfl, va_K.moved hW.alike hK, z_O.moved hW (by rw [hU]; exact hO.kept (fun a h1 h2 => hP.2.2.1 a h1 h2)), ?_, by rw [hU]; exact hP.1⟩
  rw [hU]
  exact fun q hq => hb q (Nat.le_trans hP.2.1 hq)
theorem z_words {M' : z_M} {n : Nat} {args : Array Value} {s : State} (hts : ∀ w ∈ z_tb, w.before args s = true) (hme : z_me M' n) : ∀ w ∈ z_wd M', ∀ (a' : Array Value) (U : State), s.WarmedH U.vm → w.before a' U = true := by
  intro w hw a' U hW
  have hm : w ∈ z_tb := by
    rcases List.mem_cons.mp hw with rfl | h
    · exact hme.1
    · exact h
  exact word_at hW (good_of_word (z_tb_good w hm)) (hts w hm)
/-! A CALL, whatever its kind: from a state of M at pc with the arguments on the stack the callee's contract runs -/
def z_inv (M M' : z_M) (pc : Nat) (vs : List z_V) (rec : z_G → State → Heap → Prop) : Prop :=
  ∀ (G : z_G) (n0 : Nat) (p : Program) (l : Launch) (e : Env) (s : State) (m : MethodId) (args : Array Value) (below : List Frame) (meth : Method) (c : Code) (H : Heap) (locs : List Loc) (cells slots : Nat) (ls : Array Slot) (rest : List z_V) (Pc : Array Value → State → Prop) (Qc : Array Value → State → Outcome → State → Prop) (free : Addr → Prop),
    z_X G M n0 p s m args meth c → rec G s H → Met l M'.1 (z_wd M') M'.2.2.2.2 Pc Qc M'.2.2.2.2.cells M'.2.2.2.2.slots free → FrameBlind Pc → (∀ U : State, U.heap = H → s.WarmedH U.vm → Pc (vs.map (z_cv G)).toArray U) → ls.size = M.2.2.1 → z_wds rest ≤ 8 → cells + M'.2.2.2.2.cells ≤ M.2.2.2.2.cells ∧ slots + M'.2.2.2.2.slots ≤ M.2.2.2.2.slots →
    va_Run p l e M.2.2.2.2 s m args below meth c H locs cells slots M'.2.2.2.2.cells M'.2.2.2.2.slots (F0 m pc ls ((vs.reverse ++ rest).map (z_cv G))) (rest.map (z_cv G)) (Qc (vs.map (z_cv G)).toArray) free
/-- the receiver is of a class -/
def z_rec (C : String) (a : Nat) (G : z_G) (s : State) (H : Heap) : Prop := ∃ cell : Cell, H[z_ad G a]? = some cell ∧ cell.vm.isStatics = false ∧ s.vm.findClass C = some cell.cls
def z_rcT (_ : z_G) (_ : State) (_ : Heap) : Prop := True
abbrev z_lk (own : String) (idx : Nat) (M' : z_M) : Prop := Cond.methodLink own idx M'.1 ∈ z_tb ∨ ∃ host : String, Cond.methodLinkNest own idx M'.1 host ∈ z_tn
theorem z_stk (G : z_G) (a : Nat) (As rest : List z_V) : ((z_r a :: As).reverse ++ rest).map (z_cv G) = (As.map (z_cv G)).reverse ++ .ref (z_ad G a) :: rest.map (z_cv G) := by
  rw [List.reverse_cons, List.append_assoc, List.map_append, List.map_reverse]
  rfl
theorem z_sig {M' : z_M} {n : Nat} (hme : z_me M' n) : ∀ sig, parseMethodDescriptor M'.1.desc = some sig → n = sig.parameters.length := fun sig h => by have h9 := hme.2.2.2.1; rw [h] at h9; exact (Option.some.inj h9).symm
theorem z_invV {M M' : z_M} {pc a idx n : Nat} {As : List z_V} {C : String} (hme : z_me M' n) (hin : Cond.instanceMethod M'.1 ∈ z_tb) (hse : Cond.selects C M'.1 M'.1 ∈ z_tb) (hlk : z_lk M.1.cls idx M') (hrm : z_rm M M') (hd : decode M.2.1 pc = .ok (.invokevirtual idx, 3)) (hn : As.length = n) : z_inv M M' pc (z_r a :: As) (z_rec C a) := by
  intro G n0 p l e s m args below meth c H locs cells slots ls rest Pc Qc free hX hrec hM hB hPc hls hw hcc
  have ht := hX.2.2.2.2.2.1
  have hPv : PreV s H C (z_ad G a) Pc (As.map (z_cv G)) := ⟨hB, hrec, hPc⟩
  have hW8 : 2 * (F0 m pc ls (((z_r a :: As).reverse ++ rest).map (z_cv G))).monitorRoom + ((rest.map (z_cv G)).map fun v => v.category).sum ≤ 8 := lv_room (by rw [z_wds_cat]; exact hw)
  rcases hlk with h | ⟨host, h⟩
  · exact va_runV (C := C) ⟨hX.1, hX.2.1, hX.2.2.2.1, hX.2.2.2.2.1, ht⟩ hM ⟨⟨rfl, rfl, hrm.1, hrm.2, z_words ht hme, List.mem_cons_self, ht _ hme.1, ht _ hme.2.1, hme.2.2.1, z_sig hme, ht _ h⟩, ht _ hin, ht _ hse⟩ hPv rfl (by rw [List.length_map]; exact hn) hls (z_stk G a As rest) hW8 hd hcc
  · exact va_runVN (C := C) (host := host) ⟨hX.1, hX.2.1, hX.2.2.2.1, hX.2.2.2.2.1, ht⟩ hM ⟨⟨⟨rfl, rfl, hrm.1, hrm.2, z_words ht hme, List.mem_cons_self⟩, ht _ hme.1, ht _ hme.2.1, hme.2.2.1, z_sig hme, (hX.2.2.2.2.2.2.2.2.2.1.2.2.2.2.2.1 _ h).use rfl⟩, ht _ hin, ht _ hse⟩ hPv rfl (by rw [List.length_map]; exact hn) hls (z_stk G a As rest) hW8 hd hcc
theorem z_invI {M M' : z_M} {pc a idx n : Nat} {As : List z_V} (hme : z_me M' n) (hin : Cond.instanceMethod M'.1 ∈ z_tb) (hini : M'.1.name = "<init>") (hret : M'.2.2.2.1 = none) (hlk : z_lk M.1.cls idx M') (hrm : z_rm M M') (hd : decode M.2.1 pc = .ok (.invokespecial idx, 3)) (hn : As.length = n) : z_inv M M' pc (z_r a :: As) z_rcT := by
  intro G n0 p l e s m args below meth c H locs cells slots ls rest Pc Qc free hX hrec hM hB hPc hls hw hcc
  have ht := hX.2.2.2.2.2.1
  have hPv : PreS s H Pc (.ref (z_ad G a) :: As.map (z_cv G)) := ⟨hB, hPc⟩
  have hW8 : 2 * (F0 m pc ls (((z_r a :: As).reverse ++ rest).map (z_cv G))).monitorRoom + ((rest.map (z_cv G)).map fun v => v.category).sum ≤ 8 := lv_room (by rw [z_wds_cat]; exact hw)
  have hcd : Cond.code M'.1 M'.2.1 M'.2.2.1 none ∈ z_wd M' := by rw [← hret]; exact List.mem_cons_self
  have hcb : (Cond.code M'.1 M'.2.1 M'.2.2.1 none).before args s = true := by rw [← hret]; exact ht _ hme.1
  rcases hlk with h | ⟨host, h⟩
  · exact va_runI ⟨hX.1, hX.2.1, hX.2.2.2.1, hX.2.2.2.2.1, ht⟩ hM ⟨⟨rfl, rfl, hrm.1, hrm.2, z_words ht hme, hcd, hcb, ht _ hme.2.1, hme.2.2.1, z_sig hme, ht _ h⟩, hini, ht _ hin⟩ hPv rfl (by rw [List.length_map]; exact hn) hls (z_stk G a As rest) hW8 hd hcc
  · exact va_runIN (host := host) ⟨hX.1, hX.2.1, hX.2.2.2.1, hX.2.2.2.2.1, ht⟩ hM ⟨⟨⟨rfl, rfl, hrm.1, hrm.2, z_words ht hme, hcd⟩, hcb, ht _ hme.2.1, hme.2.2.1, z_sig hme, (hX.2.2.2.2.2.2.2.2.2.1.2.2.2.2.2.1 _ h).use rfl⟩, hini, ht _ hin⟩ hPv rfl (by rw [List.length_map]; exact hn) hls (z_stk G a As rest) hW8 hd hcc
theorem z_invS {M M' : z_M} {pc idx n : Nat} {As : List z_V} (hme : z_me M' n) (hstt : Cond.static M'.1 ∈ z_tb) (hlk : z_lk M.1.cls idx M') (hrm : z_rm M M') (hd : decode M.2.1 pc = .ok (.invokestatic idx, 3)) (hn : As.length = n) : z_inv M M' pc As z_rcT := by
  intro G n0 p l e s m args below meth c H locs cells slots ls rest Pc Qc free hX hrec hM hB hPc hls hw hcc
  have ht := hX.2.2.2.2.2.1
  have hPv : PreS s H Pc (As.map (z_cv G)) := ⟨hB, hPc⟩
  have hst : (As.reverse ++ rest).map (z_cv G) = (As.map (z_cv G)).reverse ++ rest.map (z_cv G) := by rw [List.map_append, List.map_reverse]
  have hW8 : 2 * (F0 m pc ls ((As.reverse ++ rest).map (z_cv G))).monitorRoom + ((rest.map (z_cv G)).map fun v => v.category).sum ≤ 8 := lv_room (by rw [z_wds_cat]; exact hw)
  rcases hlk with h | ⟨host, h⟩
  · exact va_runS ⟨hX.1, hX.2.1, hX.2.2.2.1, hX.2.2.2.2.1, ht⟩ hM ⟨⟨rfl, rfl, hrm.1, hrm.2, z_words ht hme, List.mem_cons_self, ht _ hme.1, ht _ hme.2.1, hme.2.2.1, z_sig hme, ht _ h⟩, ht _ hstt⟩ hPv rfl (by rw [List.length_map]; exact hn) hls hst hW8 hd hcc
  · exact va_runSN (host := host) ⟨hX.1, hX.2.1, hX.2.2.2.1, hX.2.2.2.2.1, ht⟩ hM ⟨⟨⟨rfl, rfl, hrm.1, hrm.2, z_words ht hme, List.mem_cons_self⟩, ht _ hme.1, ht _ hme.2.1, hme.2.2.1, z_sig hme, (hX.2.2.2.2.2.2.2.2.2.1.2.2.2.2.2.1 _ h).use rfl⟩, ht _ hstt, True.intro⟩ hPv rfl (by rw [List.length_map]; exact hn) hls hst hW8 hd hcc
/-- an inherited method, told by another name -/
theorem z_invU {M M' : z_M} {pc a idx n : Nat} {As : List z_V} {C : String} {x : MethodName} (hme : z_me M' n) (hin : Cond.instanceMethod M'.1 ∈ z_tb) (hsm : Cond.sameMethod x.cls M'.1.cls x.name x.desc ∈ z_tb) (hyx : M'.1 = ⟨M'.1.cls, x.name, x.desc⟩) (hse : Cond.selects C x M'.1 ∈ z_tb) (hlk : Cond.methodLink M.1.cls idx x ∈ z_tb) (hrm : z_rm M M') (hd : decode M.2.1 pc = .ok (.invokevirtual idx, 3)) (hn : As.length = n) : z_inv M M' pc (z_r a :: As) (z_rec C a) := by
  intro G n0 p l e s m args below meth c H locs cells slots ls rest Pc Qc free hX hrec hM hB hPc hls hw hcc
  have ht := hX.2.2.2.2.2.1
  have hPv : PreV s H C (z_ad G a) Pc (As.map (z_cv G)) := ⟨hB, hrec, hPc⟩
  have hW8 : 2 * (F0 m pc ls (((z_r a :: As).reverse ++ rest).map (z_cv G))).monitorRoom + ((rest.map (z_cv G)).map fun v => v.category).sum ≤ 8 := lv_room (by rw [z_wds_cat]; exact hw)
  have hsg : ∀ sig, parseMethodDescriptor x.desc = some sig → n = sig.parameters.length := fun sig h => z_sig hme sig (by rw [hyx]; exact h)
  exact va_runU (C := C) (owner := M'.1.cls) (x := x) ⟨hX.1, hX.2.1, hX.2.2.2.1, hX.2.2.2.2.1, ht⟩ hM ⟨⟨rfl, rfl, hrm.1, hrm.2, z_words ht hme, List.mem_cons_self⟩, ht _ hme.1, ht _ hme.2.1, hme.2.2.1, hsg, ht _ hlk, ht _ hsm, by rw [← hyx]; exact va_Decl.of (ht _ hin) (ht _ hme.1), ht _ hse, ht _ hin⟩ hPv rfl (by rw [List.length_map]; exact hn) hls (z_stk G a As rest) hW8 hd hcc
/-- a superclass's method -/
theorem z_invSU {M M' : z_M} {pc a idx n ci : Nat} {As : List z_V} {C : String} {T : u_T} {N : Nat} (hc : z_Cl[ci]? = some (C, T, N)) (hme : z_me M' n) (hin : Cond.instanceMethod M'.1 ∈ z_tb) (hsm : Cond.sameMethod M'.1.cls M'.1.cls M'.1.name M'.1.desc ∈ z_tb) (hsu : Cond.superclass M.1.cls M'.1.cls ∈ z_tb) (hno : M'.1.name ≠ "<init>") (hlk : Cond.methodLink M.1.cls idx M'.1 ∈ z_tb) (hrm : z_rm M M') (hd : decode M.2.1 pc = .ok (.invokespecial idx, 3)) (hn : As.length = n) : z_inv M M' pc (z_r a :: As) (z_rec C a) := by
  intro G n0 p l e s m args below meth c H locs cells slots ls rest Pc Qc free hX hrec hM hB hPc hls hw hcc
  have ht := hX.2.2.2.2.2.1
  have hat := (hX.2.2.2.2.2.2.2.2.1.1 ci _ hc).2
  have hPv : PreV s H C (z_ad G a) Pc (As.map (z_cv G)) := ⟨hB, hrec, hPc⟩
  have hW8 : 2 * (F0 m pc ls (((z_r a :: As).reverse ++ rest).map (z_cv G))).monitorRoom + ((rest.map (z_cv G)).map fun v => v.category).sum ≤ 8 := lv_room (by rw [z_wds_cat]; exact hw)
  exact va_runSU hat ⟨hX.1, hX.2.1, hX.2.2.2.1, hX.2.2.2.2.1, ht⟩ hM ⟨⟨rfl, rfl, hrm.1, hrm.2, z_words ht hme, List.mem_cons_self⟩, ht _ hlk, ht _ hsm, ht _ hsu, ht _ hin, ht _ hme.2.1, ht _ hme.1, hno, z_sig hme⟩ hPv rfl (by rw [List.length_map]; exact hn) hls (z_stk G a As rest) hW8 hd hcc
section ZCALL2
variable {M M' : z_M} {nz : Nat × Nat} {pc : Nat} {L : List (Nat × z_V)} {σ : z_S} {Q : Option z_V → z_S → Prop}
theorem z_Rs {vs rest : List z_V} (hS : ∀ q ∈ vs.reverse ++ rest, z_Rv q) : (∀ v ∈ vs, z_Rv v) ∧ ∀ q ∈ rest, z_Rv q := ⟨fun v hv => hS v (List.mem_append_left _ (List.mem_reverse.mpr hv)), fun q hq => hS q (List.mem_append_right _ hq)⟩
/-- a callee that makes nothing, over the same memory -/
theorem z_callN {vs rest st : List z_V} {rec : z_G → State → Heap → Prop} (hi : z_inv M M' pc vs rec) (hp : plainFor M'.1 = true)
    (hrec : ∀ (G : z_G) (p : Program) (s : State) (m : MethodId) (args : Array Value) (meth : Method) (c : Code) (H : Heap) (locs : List Loc), z_X G M nz.1 p s m args meth c → z_P G σ s H locs → rec G s H) (hst : st = vs.reverse ++ rest) (h1 : ∀ v ∈ vs, z_c1 v) (h2 : vs.length ≤ M'.2.2.1) (hw : z_wds rest ≤ 8) (hcc : M'.2.2.2.2.cells = 0 ∧ M'.2.2.2.2.slots = 0)
    (k : z_Sem M' (σ.1.length, 0) 0 (z_la 0 vs) [] σ (fun v σ' => z_Sem M nz (pc + 3) L (v.toList ++ rest) σ' Q)) : z_Sem M nz pc L st σ Q := by
  intro G p l e s m args below meth c Z H locs ls hX hZ hP hL hS hl hc
  subst hst
  obtain ⟨hSA, hSr⟩ := z_Rs hS
  have hM := z_met k hp h1 h2 hSA l G
  have hr := hi G nz.1 p l e s m args below meth c H locs nz.2 nz.2 ls rest _ _ _ hX (hrec G p s m args meth c H locs hX hP) hM (z_blind G σ _) (fun U hU hW => z_pre hX hP vs U hU hW) hl.1 hw (by rw [hcc.1, hcc.2]; exact hc.2)
  refine z_after hr hP.2 (fun q h => h) (fun G' v σ' H1 locs1 hag hQ hv hn hP1 _ _ hS1 => ?_)
  have hG := hag.choose_spec.2.2 hcc.1
  subst hG
  have h9 := hQ G' p l e s m args below meth c Z H1 locs1 ls hX hZ ⟨hP1, hS1⟩ hL (fun q hq => ?_) hl ⟨Nat.le_trans hc.1 hn, hc.2⟩
  · rw [hcc.1, hcc.2]
    rw [show (v.map (z_cv G')).toList ++ rest.map (z_cv G') = (v.toList ++ rest).map (z_cv G') by cases v <;> simp]
    exact h9
  · rcases List.mem_append.mp hq with h | h
    · exact hv q (by cases v with | none => cases h | some x => simp at h; rw [h])
    · exact hSr q h
theorem z_recC {G : z_G} {p : Program} {s : State} {m : MethodId} {args : Array Value} {meth : Method} {c : Code} {H : Heap} {locs : List Loc} {n0 a ci : Nat} {fl : List (Option (Option Nat))} {C : String} {T : u_T} {N : Nat} (hc0 : z_Cl[ci]? = some (C, T, N)) (hs : σ.1[a]? = some (.inl (ci, fl))) (hX : z_X G M n0 p s m args meth c) (hP : z_P G σ s H locs) : z_rec C a G s H := va_recv hX.2.2.2.2.2.2.2.2.1 hP.1.1 hc0 (z_ws_get hs)
theorem z_recS {G : z_G} {p : Program} {s : State} {m : MethodId} {args : Array Value} {meth : Method} {c : Code} {H : Heap} {locs : List Loc} {n0 i : Nat} (hi : i < 35) (hX : z_X G M n0 p s m args meth c) (hP : z_P G σ s H locs) : z_rec "java/lang/String" (1001 + i) G s H := by
  have hO := hX.2.2.2.2.2.2.2.2.2.1
  obtain ⟨cell, e1, e2, e3, -⟩ := (hO.2.1 i hi).1.kept hP.2.2.1
  exact ⟨cell, e1, e2, e3⟩
theorem z_callV {As rest st : List z_V} {a ci idx n : Nat} {fl : List (Option (Option Nat))} {C : String} {T : u_T} {N : Nat} (hme : z_me M' n) (hin : Cond.instanceMethod M'.1 ∈ z_tb) (hse : Cond.selects C M'.1 M'.1 ∈ z_tb) (hc0 : z_Cl[ci]? = some (C, T, N)) (hlk : z_lk M.1.cls idx M') (hrm : z_rm M M') (hd : decode M.2.1 pc = .ok (.invokevirtual idx, 3))
    (hs : σ.1[a]? = some (.inl (ci, fl))) (hst : st = As.reverse ++ z_r a :: rest) (hn : As.length = n) (h1 : ∀ v ∈ As, z_c1 v) (h2 : As.length + 1 ≤ M'.2.2.1) (hw : z_wds rest ≤ 8) (hcc : M'.2.2.2.2.cells = 0 ∧ M'.2.2.2.2.slots = 0)
    (k : z_Sem M' (σ.1.length, 0) 0 (z_la 0 (z_r a :: As)) [] σ (fun v σ' => z_Sem M nz (pc + 3) L (v.toList ++ rest) σ' Q)) : z_Sem M nz pc L st σ Q :=
  z_callN (z_invV (C := C) hme hin hse hlk hrm hd hn) hme.2.2.2.2 (fun G p s m args meth c H locs hX hP => z_recC hc0 hs hX hP) (by rw [hst]; simp) (List.forall_mem_cons.mpr ⟨True.intro, h1⟩) h2 hw hcc k
/-- a String constant's method -/
theorem z_callVS {As rest st : List z_V} {i idx n : Nat} (hi : i < 35) (hme : z_me M' n) (hin : Cond.instanceMethod M'.1 ∈ z_tb) (hse : Cond.selects "java/lang/String" M'.1 M'.1 ∈ z_tb) (hlk : z_lk M.1.cls idx M') (hrm : z_rm M M') (hd : decode M.2.1 pc = .ok (.invokevirtual idx, 3))
    (hst : st = As.reverse ++ z_r (1001 + i) :: rest) (hn : As.length = n) (h1 : ∀ v ∈ As, z_c1 v) (h2 : As.length + 1 ≤ M'.2.2.1) (hw : z_wds rest ≤ 8) (hcc : M'.2.2.2.2.cells = 0 ∧ M'.2.2.2.2.slots = 0)
    (k : z_Sem M' (σ.1.length, 0) 0 (z_la 0 (z_r (1001 + i) :: As)) [] σ (fun v σ' => z_Sem M nz (pc + 3) L (v.toList ++ rest) σ' Q)) : z_Sem M nz pc L st σ Q :=
  z_callN (z_invV (C := "java/lang/String") hme hin hse hlk hrm hd hn) hme.2.2.2.2 (fun G p s m args meth c H locs hX hP => z_recS hi hX hP) (by rw [hst]; simp) (List.forall_mem_cons.mpr ⟨True.intro, h1⟩) h2 hw hcc k
theorem z_callS {As rest st : List z_V} {idx n : Nat} (hme : z_me M' n) (hstt : Cond.static M'.1 ∈ z_tb) (hlk : z_lk M.1.cls idx M') (hrm : z_rm M M') (hd : decode M.2.1 pc = .ok (.invokestatic idx, 3))
    (hst : st = As.reverse ++ rest) (hn : As.length = n) (h1 : ∀ v ∈ As, z_c1 v) (h2 : As.length ≤ M'.2.2.1) (hw : z_wds rest ≤ 8) (hcc : M'.2.2.2.2.cells = 0 ∧ M'.2.2.2.2.slots = 0)
    (k : z_Sem M' (σ.1.length, 0) 0 (z_la 0 As) [] σ (fun v σ' => z_Sem M nz (pc + 3) L (v.toList ++ rest) σ' Q)) : z_Sem M nz pc L st σ Q :=
  z_callN (z_invS hme hstt hlk hrm hd hn) hme.2.2.2.2 (fun _ _ _ _ _ _ _ _ _ _ _ => True.intro) hst h1 h2 hw hcc k
end ZCALL2
end
section
section ZRULES3
variable {M : z_M} {nz : Nat × Nat} {pc : Nat} {L : List (Nat × z_V)} {st : List z_V} {σ : z_S} {Q : Option z_V → z_S → Prop}
/-- the end -/
theorem z_ret {v : Option z_V} {ins : Instr} (hd : decode M.2.1 pc = .ok (ins, 1)) (hrk : z_rk M.2.2.2.1 v ins) (hst : st = v.toList) (k : Q v σ) : z_Sem M nz pc L st σ Q := by
  intro G p l e s m args below meth c Z H locs ls hX hZ hP hL hS hl hc
  subst hst
  exact hZ G v σ H locs nz.2 pc ls ins (z_ag.rf _ _ _) k hP (fun x hx => hS x (by rw [hx]; simp)) hc.1 hc.2 hrk hd
theorem z_objInit {a idx : Nat} (hlk : Cond.methodLink M.1.cls idx Lib.objectInit ∈ z_tb) (hin : Cond.instanceMethod Lib.objectInit ∈ z_tb) (hco : Cond.code Lib.objectInit ⟨#[0xb1]⟩ 1 none ∈ z_tb) (hrm : 1 ≤ M.2.2.2.2.frames ∧ z_wds st + 12 ≤ M.2.2.2.2.locals) (hd : decode M.2.1 pc = .ok (.invokespecial idx, 3)) (kk : z_Sem M nz (pc + 3) L st σ Q) : z_Sem M nz pc L (z_r a :: st) σ Q := by
  intro G p l e s m args below meth c Z H locs ls hX hZ hP hL hS hl hc
  have ht := hX.2.2.2.2.2.1
  refine W.objInit (g := F0 m pc ls ((z_r a :: st).map (z_cv G))) (rest := st.map (z_cv G)) hX.1 hX.2.1 hX.2.2.2.2.1 (ht _ hlk) (ht _ hin) (ht _ hco) rfl (by rw [hX.2.2.2.1]; exact hl.1) rfl hd hrm.1 (by rw [z_wds_cat]; show 2 * 0 + _ + _ ≤ _; omega) ?_
  exact kk G p l e s m args below meth c Z H locs ls hX hZ hP hL (z_RvC hS).2 hl hc
/-! NAMES: which are there -/
def z_vv (n : Nat) : z_V → Prop
  | .inr (.inl a) => a < n ∨ 1000 ≤ a
  | _ => True
def z_vo (n : Nat) (o : Option (Option Nat)) : Prop := ∀ a, o = some (some a) → (a < n ∨ 1000 ≤ a)
def z_vc (n : Nat) : z_C → Prop
  | .inl (_, fl) => ∀ o ∈ fl, z_vo n o
  | .inr (.inl _) => True
  | .inr (.inr rs) => ∀ o ∈ rs, z_vo n (some o)
/-- all references of a memory's shape lead into it -/
def z_cl1 (n : Nat) (sh : List z_C) : Prop := ∀ c ∈ sh, z_vc n c
abbrev z_clo (sh : List z_C) : Prop := z_cl1 sh.length sh
abbrev z_lv (n : Nat) (L : List (Nat × z_V)) : Prop := ∀ q ∈ L, z_vv n q.2
abbrev z_sv1 (n : Nat) (st : List z_V) : Prop := ∀ q ∈ st, z_vv n q
/-- the same addresses for names below n and for what was there before -/
def z_sm1 (n : Nat) (G G' : z_G) : Prop := (∃ f : Nat → Nat, G' = z_wa G f) ∧ ∀ a : Nat, (a < n ∨ 1000 ≤ a) → z_ad G' a = z_ad G a
theorem z_ag.sm {c0 n0 : Nat} {G G' : z_G} (h : z_ag c0 n0 G G') : z_sm1 n0 G G' := by
  obtain ⟨f, rfl, h2, -⟩ := h
  exact ⟨⟨f, rfl⟩, h2⟩
theorem z_sm1.ag {c0 n n0 : Nat} {G G' : z_G} (h : z_sm1 n G G') (hc : c0 ≠ 0) (hn : n0 ≤ n) : z_ag c0 n0 G G' := by
  obtain ⟨⟨f, rfl⟩, h2⟩ := h
  exact ⟨f, rfl, fun a ha => h2 a (by omega), fun h => absurd h hc⟩
theorem z_sm1.le {n n' : Nat} {G G' : z_G} (h : z_sm1 n G G') (hn : n' ≤ n) : z_sm1 n' G G' := ⟨h.1, fun a ha => h.2 a (by omega)⟩
theorem z_ag.trans {c0 n0 : Nat} {G G1 G2 : z_G} (h1 : z_ag c0 n0 G G1) (h2 : z_ag c0 n0 G1 G2) : z_ag c0 n0 G G2 := by
  obtain ⟨f, rfl, a1, b1⟩ := h1
  obtain ⟨g, rfl, a2, b2⟩ := h2
  exact ⟨g, rfl, fun a ha => (a2 a ha).trans (a1 a ha), fun h => (b2 h).trans (b1 h)⟩
theorem z_cv_vv {n : Nat} {G G' : z_G} (h : z_sm1 n G G') {v : z_V} (hv : z_vv n v) : z_cv G' v = z_cv G v := by
  rcases v with x | x | x | x | x
  · rfl
  · show Value.ref _ = Value.ref _
    rw [h.2 x hv]
  · rfl
  · rfl
  · rfl
theorem z_st_vv {n : Nat} {G G' : z_G} (h : z_sm1 n G G') {st : List z_V} (hv : z_sv1 n st) : st.map (z_cv G') = st.map (z_cv G) := List.map_congr_left (fun v hm => z_cv_vv h (hv v hm))
theorem z_lo_vv {n : Nat} {G G' : z_G} (h : z_sm1 n G G') {L : List (Nat × z_V)} (hv : z_lv n L) : z_lo G' L = z_lo G L := List.map_congr_left (fun q hm => by rw [z_cv_vv h (hv q hm)])
theorem z_fld_vo {n : Nat} {G G' : z_G} (h : z_sm1 n G G') {o : Option (Option Nat)} (ho : z_vo n o) (f : Int → Int) (k : Nat) : z_fld G' f k o = z_fld G f k o := by
  rcases o with _ | _ | a
  · rfl
  · rfl
  · show Value.ref _ = Value.ref _
    rw [h.2 a (ho a rfl)]
theorem z_cell_vc {n : Nat} {G G' : z_G} (h : z_sm1 n G G') {c : z_C} (hc : z_vc n c) (f : Int → Int) : z_cell G' f c = z_cell G f c := by
  have h1 : G'.2.1 = G.2.1 := by obtain ⟨⟨g, rfl⟩, -⟩ := h; rfl
  rcases c with ⟨ci, fl⟩ | ⟨kd, n⟩ | rs
  · show Sum.inr (ci, _) = Sum.inr (ci, _)
    congr 2
    apply List.ext_getElem?
    intro i
    simp only [List.getElem?_mapIdx]
    cases hi : fl[i]? with
    | none => rfl
    | some o =>
      simp only [Option.map_some]
      rw [z_fld_vo h (hc o (List.mem_of_getElem? hi))]
  · show Sum.inl (G'.2.1 kd, n, _) = Sum.inl (G.2.1 kd, n, _)
    rw [h1]
  · show Sum.inl (G'.2.1 3, rs.length, _) = Sum.inl (G.2.1 3, rs.length, _)
    rw [h1]
    congr 7
    funext j
    rw [List.getD_eq_getElem?_getD]
    cases hj : rs[j]? with
    | none => rfl
    | some o =>
      simp only [Option.getD_some]
      rcases o with _ | a
      · rfl
      · show some (z_ad G' a) = some (z_ad G a)
        rw [h.2 a (hc (some a) (List.mem_of_getElem? hj) a rfl)]
theorem z_O.sm {n : Nat} {G G' : z_G} (h : z_sm1 n G G') {U : State} {H : Heap} (hO : z_O G U H) : z_O G' U H := by
  obtain ⟨⟨f, rfl⟩, h2⟩ := h
  obtain ⟨⟨h1, h1b⟩, h3, h4, h5, h6, h7, h8, h9⟩ := hO
  have e : ∀ a : Nat, 1000 ≤ a → z_ad (z_wa G f) a = z_ad G a := fun a ha => h2 a (Or.inr ha)
  refine ⟨⟨by rw [e 1000 (by omega)]; exact h1, by rw [e 1000 (by omega)]; exact h1b⟩, fun i hi => ?_, fun i q hq => ?_, h5, h6, h7, ?_, ?_⟩
  · rw [e (1001 + i) (by omega), e (1101 + i) (by omega)]; exact h3 i hi
  · rw [e (1001 + i) (by omega)]; exact h4 i q hq
  · rw [e 1201 (by omega)]; exact h8
  · rw [e 1202 (by omega)]; exact h9
theorem z_X.sm {n n0 : Nat} {G G' : z_G} (h : z_sm1 n G G') {p : Program} {s : State} {m : MethodId} {args : Array Value} {meth : Method} {c : Code} (hX : z_X G M n0 p s m args meth c) : z_X G' M n0 p s m args meth c := by
  have h2 := h
  obtain ⟨⟨f, rfl⟩, -⟩ := h2
  obtain ⟨a1, a2, a3, a4, a5, a6, a7, a8, a9, b1, b2⟩ := hX
  exact ⟨a1, a2, a3, a4, a5, a6, a7, a8, a9, b1.sm h, b2⟩
theorem z_Z.ag {n0 : Nat} {G G' : z_G} (h : z_ag M.2.2.2.2.cells n0 G G') {p : Program} {l : Launch} {e : Env} {s : State} {m : MethodId} {args : Array Value} {below : List Frame} {meth : Method} {c : Code} {Z : State → Prop} (hZ : z_Z G M n0 p l e s m args below meth c Z Q) : z_Z G' M n0 p l e s m args below meth c Z Q :=
  fun G2 v σ' H' locs' z' pc ls' ins hag => hZ G2 v σ' H' locs' z' pc ls' ins (h.trans hag)
/-! NEW CELLS -/
/-- memory with a new cell -/
def z_nw (σ : z_S) (c : z_C) : z_S := (σ.1 ++ [c], fun b => if b = σ.1.length then fun _ => 0 else σ.2 b)
/-- one more name -/
def z_nG (G : z_G) (n q : Nat) : z_G := z_wa G (fun a => if a = n then q else z_ad G a)
theorem z_nG_sm {G : z_G} {n q : Nat} (hn : n < 1000) : z_sm1 n G (z_nG G n q) := ⟨⟨_, rfl⟩, fun a ha => by show (if a = n then q else z_ad G a) = z_ad G a; rw [if_neg (by omega)]⟩
theorem z_nG_at {G : z_G} {n q : Nat} : z_ad (z_nG G n q) n = q := if_pos rfl
theorem z_nG_cell {G : z_G} {n q : Nat} {f : Int → Int} {c : z_C} (hn : n < 1000) (hc : z_vc n c) : z_cell (z_nG G n q) f c = z_cell G f c := z_cell_vc (z_nG_sm hn) hc f
theorem z_Pnw {G : z_G} {σ : z_S} {s : State} {H H1 : Heap} {locs : List Loc} (hP : z_P G σ s H locs) (c : z_C) (hlen : σ.1.length < 1000) (hlo : z_clo σ.1) (hc : z_vc σ.1.length c) (hown : ∀ q : Nat, s.heap.size ≤ q → G.2.2.1 q) (hz : H.size ≤ H1.size) (ho : ∀ q : Nat, q < H.size → H1[q]? = H[q]?) (hn : va_at G.1 z_Cl (H.size, z_cell G (fun _ => 0) c) H1) : z_P (z_nG G σ.1.length H.size) (z_nw σ c) s H1 locs := by
  have hS1 : va_S G.2.2.1 s.heap H1 locs := ⟨Nat.le_trans hP.2.1 hz, fun x h1 h2 => (ho x (Nat.lt_of_lt_of_le h1 hP.2.1)).trans (hP.2.2.1 x h1 h2), hP.2.2.2⟩
  have hsz := hP.2.1
  obtain ⟨⟨h1, h2, h3, h4, h5, h6, h7⟩, h8⟩ := hP
  have hle : (z_nw σ c).1.length = σ.1.length + 1 := by simp [z_nw]
  have hlt : ∀ i : Nat, i < σ.1.length → z_ad G i < H.size := fun i hi => by
    have e1 := List.getElem?_eq_getElem hi
    exact (h1 i _ (z_ws_get (G := G) e1)).lt
  have hsm := z_nG_sm (G := G) (q := H.size) hlen
  have had : ∀ i : Nat, i < σ.1.length → z_ad (z_nG G σ.1.length H.size) i = z_ad G i := fun i hi => hsm.2 i (Or.inl hi)
  refine ⟨⟨fun k q hk => ?_, by rw [hle]; omega, fun b i => ?_, fun j hj => ?_, ?_, fun i hi => ?_, fun i j hi hj hij => ?_⟩, hS1⟩
  · simp only [z_ws, List.getElem?_mapIdx, Option.map_eq_some_iff] at hk
    obtain ⟨d, hd, rfl⟩ := hk
    have hkl := (List.getElem?_eq_some_iff.mp hd).1
    rw [hle] at hkl
    rcases Nat.lt_or_ge k σ.1.length with hk1 | hk1
    · have hd1 : σ.1[k]? = some d := by
        have : (σ.1 ++ [c])[k]? = σ.1[k]? := List.getElem?_append_left hk1
        rw [← this]; exact hd
      have e1 := h1 k _ (z_ws_get (G := G) hd1)
      show va_at G.1 z_Cl (z_ad (z_nG G σ.1.length H.size) k, z_cell (z_nG G σ.1.length H.size) ((z_nw σ c).2 k) d) H1
      rw [had k hk1, z_nG_cell hlen (hlo d (List.mem_of_getElem? hd1)), show (z_nw σ c).2 k = σ.2 k from if_neg (by omega)]
      exact e1.kept (ho _ e1.lt)
    · have hk2 : k = σ.1.length := by omega
      subst hk2
      have hd1 : d = c := by
        have : (σ.1 ++ [c])[σ.1.length]? = some c := by simp
        exact Option.some.inj (hd.symm.trans this)
      subst hd1
      show va_at G.1 z_Cl (z_ad (z_nG G σ.1.length H.size) σ.1.length, z_cell (z_nG G σ.1.length H.size) ((z_nw σ d).2 σ.1.length) d) H1
      rw [z_nG_at, z_nG_cell hlen hc, show (z_nw σ d).2 σ.1.length = fun _ => 0 from if_pos rfl]
      exact hn
  · show z_R ((if b = σ.1.length then fun _ => 0 else σ.2 b) i)
    split
    · exact z_zero
    · exact h3 b i
  · show (if 1000 = σ.1.length then fun _ => 0 else σ.2 1000) (j : Int) = _
    rw [if_neg (by omega)]; exact h4 j hj
  · show (if 1001 = σ.1.length then fun _ => 0 else σ.2 1001) 0 = _
    rw [if_neg (by omega)]; exact h5
  · rw [hle] at hi
    rcases Nat.lt_or_ge i σ.1.length with hi1 | hi1
    · rw [had i hi1]; exact h6 i hi1
    · rw [show i = σ.1.length by omega, z_nG_at]; exact hown _ hsz
  · rw [hle] at hi hj
    rcases Nat.lt_or_ge i σ.1.length with hi1 | hi1 <;> rcases Nat.lt_or_ge j σ.1.length with hj1 | hj1
    · rw [had i hi1, had j hj1] at hij; exact h7 i j hi1 hj1 hij
    · rw [had i hi1, show j = σ.1.length by omega, z_nG_at] at hij
      have := hlt i hi1; omega
    · rw [had j hj1, show i = σ.1.length by omega, z_nG_at] at hij
      have := hlt j hj1; omega
    · omega
/-- goes on with one more name -/
theorem z_nwk {G : z_G} {p : Program} {l : Launch} {e : Env} {s : State} {m : MethodId} {args : Array Value} {below : List Frame} {meth : Method} {c : Code} {Z : State → Prop} {H H1 : Heap} {locs : List Loc} {ls : Array Slot} {N pc' : Nat} (c0 : z_C) (hX : z_X G M nz.1 p s m args meth c) (hZ : z_Z G M nz.1 p l e s m args below meth c Z Q) (hP : z_P G σ s H locs) (hL : ∀ q ∈ L, z_Rv q.2) (hS : ∀ q ∈ st, z_Rv q) (hl : lv_has ls M.2.2.1 (z_lo G L)) (hc : nz.1 ≤ σ.1.length)
    (hlen : σ.1.length < 1000) (hlo : z_clo σ.1) (hvc : z_vc σ.1.length c0) (hLv : z_lv σ.1.length L) (hSv : z_sv1 σ.1.length st) (hN : 1 ≤ N) (hcc : nz.2 + N ≤ M.2.2.2.2.cells ∧ nz.2 + N ≤ M.2.2.2.2.slots) (hz : H.size ≤ H1.size) (ho : ∀ q : Nat, q < H.size → H1[q]? = H[q]?) (hn : va_at G.1 z_Cl (H.size, z_cell G (fun _ => 0) c0) H1)
    (kk : z_Sem M (nz.1, nz.2 + N) pc' L (z_r σ.1.length :: st) (z_nw σ c0) Q) : W p l e M.2.2.2.2 s m args below meth c H1 locs (nz.2 + 1) (nz.2 + N) Z (F0 m pc' ls (.ref H.size :: st.map (z_cv G))) := by
  have hsm := z_nG_sm (G := G) (q := H.size) hlen
  have hag : z_ag M.2.2.2.2.cells nz.1 G (z_nG G σ.1.length H.size) := hsm.ag (by omega) hc
  have hle : (z_nw σ c0).1.length = σ.1.length + 1 := by simp [z_nw]
  have h9 := kk (z_nG G σ.1.length H.size) p l e s m args below meth c Z H1 locs ls (hX.sm hsm) (hZ.ag hag) (z_Pnw hP c0 hlen hlo hvc hX.2.2.2.2.2.2.2.2.2.2 hz ho hn) hL (z_RvN hS) (by rw [z_lo_vv hsm hLv]; exact hl) ⟨by rw [hle]; show nz.1 ≤ _; omega, hcc⟩
  rw [List.map_cons, z_st_vv hsm hSv, show z_cv (z_nG G σ.1.length H.size) (z_r σ.1.length) = .ref H.size by show Value.ref (z_ad _ _) = _; rw [z_nG_at]] at h9
  exact W.widen (by omega) (Nat.le_refl _) h9
theorem z_new {idx ci : Nat} {C : String} {T : u_T} {N : Nat} {ty : Nat → FieldType} {fl : List (Option (Option Nat))} (hcl : z_cls ci C T N ty) (hlk : Cond.classLink M.1.cls idx C ∈ z_tb) (hins : Cond.instantiable C N ∈ z_tb) (hini : Cond.initialized C ∈ z_tb) (hfl : fl.length = N ∧ ∀ j, j < N → (fl[j]? = some none ∧ defaultValue (ty j) = .int 0) ∨ (fl[j]? = some (some none) ∧ defaultValue (ty j) = .null)) (hlen : σ.1.length < 1000) (hlo : z_clo σ.1) (hLv : z_lv σ.1.length L) (hSv : z_sv1 σ.1.length st) (hN : 1 ≤ N)
    (hcc : nz.2 + N ≤ M.2.2.2.2.cells ∧ nz.2 + N ≤ M.2.2.2.2.slots) (hd : decode M.2.1 pc = .ok (.new idx, 3)) (kk : z_Sem M (nz.1, nz.2 + N) (pc + 3) L (z_r σ.1.length :: st) (z_nw σ (.inl (ci, fl))) Q) : z_Sem M nz pc L st σ Q := by
  intro G p l e s m args below meth c Z H locs ls hX hZ hP hL hS hl hc
  obtain ⟨c1, c2, c3, c4⟩ := hcl
  have ht := hX.2.2.2.2.2.1
  have hKn := hX.2.2.2.2.2.2.2.2.1.1 ci _ c1
  refine W.newcK hX.1 hX.2.1 hX.2.2.2.2.1 (ht _ hlk) (ht _ hins) (ht _ hini) rfl hd (by omega) hcc.2 hKn.2.1 rfl fun H1 kC hkC e1 z1 o1 => ?_
  have hb := u_born ty ht c2 hKn hkC e1 c3
  refine z_nwk (.inl (ci, fl)) hX hZ hP hL hS hl hc.1 hlen hlo ?_ hLv hSv hN hcc (by omega) o1 ?_ kk
  · intro o ho a ha
    obtain ⟨j, hj⟩ := List.getElem?_of_mem ho
    have hjl := (List.getElem?_eq_some_iff.mp hj).1
    rcases hfl.2 j (by omega) with ⟨q, -⟩ | ⟨q, -⟩ <;> (rw [hj, ha] at q; cases q)
  · refine ⟨_, c1, ?_⟩
    refine hb.to (fun j hj => ?_)
    rcases hfl.2 j hj with ⟨h1, h2⟩ | ⟨h1, h2⟩
    · rw [h2]
      simp [vp_V, List.getD_eq_getElem?_getD, List.getElem?_mapIdx, h1, z_fld]
    · rw [h2]
      simp [vp_V, List.getD_eq_getElem?_getD, List.getElem?_mapIdx, h1, z_fld]
theorem z_cls1 {s : State} {t : String} {a b : ClassId} (h1 : s.vm.findClass t = some a) (h2 : s.vm.findClass t = some b) : a = b := Option.some.inj (h1.symm.trans h2)
theorem z_newa {at0 : ArrayType} {kd N : Nat} (hkd : (kd = 0 ∧ at0 = .int) ∨ (kd = 1 ∧ at0 = .boolean) ∨ (kd = 2 ∧ at0 = .byte)) (hw : Cond.arrayClass (newarray.typeOf at0) ∈ z_tb) (hNb : N * 4 ≤ 536870912) (hlen : σ.1.length < 1000) (hlo : z_clo σ.1) (hLv : z_lv σ.1.length L) (hSv : z_sv1 σ.1.length st) (hN : 1 ≤ N)
    (hcc : nz.2 + N ≤ M.2.2.2.2.cells ∧ nz.2 + N ≤ M.2.2.2.2.slots) (hd : decode M.2.1 pc = .ok (.newarray at0, 2)) (kk : z_Sem M (nz.1, nz.2 + N) (pc + 2) L (z_r σ.1.length :: st) (z_nw σ (.inr (.inl (kd, N)))) Q) : z_Sem M nz pc L (z_i (N : Int) :: st) σ Q := by
  intro G p l e s m args below meth c Z H locs ls hX hZ hP hL hS hl hc
  have ht := hX.2.2.2.2.2.1
  have hN' : z_R (N : Int) := ⟨by omega, by omega⟩
  have hn0 : ¬ Int32.ofInt (N : Int) < 0 := by rw [z_of0, z_lt hN' z_zero]; omega
  have hcl : (Int32.ofInt (N : Int)).toNatClampNeg = N := by rw [z_clamp hN']; omega
  have hdef : defaultValue (newarray.typeOf at0) = .int 0 := by rcases hkd with ⟨-, rfl⟩ | ⟨-, rfl⟩ | ⟨-, rfl⟩ <;> rfl
  refine va_newaK hX.1 hX.2.1 (ht _ hw) rfl hd rfl hn0 hcl (by rcases hkd with ⟨-, rfl⟩ | ⟨-, rfl⟩ | ⟨-, rfl⟩ <;> (simp only [newarray.typeOf, componentBytes]; omega)) (by omega) hcc.2 rfl fun H1 cA e1 z1 o1 hAr hNm => ?_
  have hcA : cA = G.2.1 kd := by
    have hK := hX.2.2.2.2.2.2.2.2.1.2
    rcases hkd with ⟨rfl, rfl⟩ | ⟨rfl, rfl⟩ | ⟨rfl, rfl⟩
    · exact z_cls1 hNm (hK 0 _ rfl).2
    · exact z_cls1 hNm (hK 1 _ rfl).2
    · exact z_cls1 hNm (hK 2 _ rfl).2
  subst hcA
  refine z_nwk (.inr (.inl (kd, N))) hX hZ hP hL (z_RvC hS).2 hl hc.1 hlen hlo True.intro hLv hSv hN hcc (by omega) o1 ?_ kk
  show H1[H.size]? = _
  rw [e1, hdef]
  rfl
theorem z_newq {idx N : Nat} (hlk : Cond.classLink M.1.cls idx "TimeGaps$Plan" ∈ z_tb) (hNb : N * 4 ≤ 536870912) (hlen : σ.1.length < 1000) (hlo : z_clo σ.1) (hLv : z_lv σ.1.length L) (hSv : z_sv1 σ.1.length st) (hN : 1 ≤ N)
    (hcc : nz.2 + N ≤ M.2.2.2.2.cells ∧ nz.2 + N ≤ M.2.2.2.2.slots) (hd : decode M.2.1 pc = .ok (.anewarray idx, 3)) (kk : z_Sem M (nz.1, nz.2 + N) (pc + 3) L (z_r σ.1.length :: st) (z_nw σ (.inr (.inr (List.replicate N none)))) Q) : z_Sem M nz pc L (z_i (N : Int) :: st) σ Q := by
  intro G p l e s m args below meth c Z H locs ls hX hZ hP hL hS hl hc
  have ht := hX.2.2.2.2.2.1
  have hN' : z_R (N : Int) := ⟨by omega, by omega⟩
  have hn0 : ¬ Int32.ofInt (N : Int) < 0 := by rw [z_of0, z_lt hN' z_zero]; omega
  have hcl : (Int32.ofInt (N : Int)).toNatClampNeg = N := by rw [z_clamp hN']; omega
  refine W.anew hX.1 hX.2.1 hX.2.2.2.2.1 (ht _ hlk) hX.2.2.2.2.2.2.2.2.2.1.2.2.2.2.1.2.use rfl hd rfl hn0 (by rw [hcl]; exact hNb) (by omega) (by rw [hcl]; exact hcc.2) fun cA kA comp f1 f2 f3 f4 => ?_
  rw [hcl]
  have hcA : cA = G.2.1 3 := by
    obtain ⟨kA', comp', -, -, -, g⟩ := (hX.2.2.2.2.2.2.2.2.1.2 3 _ rfl).2
    exact z_cls1 f1 g
  subst hcA
  generalize hH1 : H.push ({ cls := G.2.1 3, slots := Array.replicate N .null, vm := .none } : Cell) = H1
  have z1 : H1.size = H.size + 1 := by rw [← hH1, Array.size_push]
  have e1 : H1[H.size]? = some (arrV (G.2.1 3) N (fun _ => .null)) := by rw [← hH1, Array.getElem?_push_size, ← arrV_new]
  have o1 : ∀ q : Nat, q < H.size → H1[q]? = H[q]? := fun q hq => by rw [← hH1, Array.getElem?_push, if_neg (Nat.ne_of_lt hq)]
  refine z_nwk (.inr (.inr (List.replicate N none))) hX hZ hP hL (z_RvC hS).2 hl hc.1 hlen hlo ?_ hLv hSv hN hcc (by omega) o1 ?_ kk
  · intro o ho a ha
    rw [List.eq_of_mem_replicate ho] at ha
    cases ha
  · show H1[H.size]? = some (vp_cell _ (_, .inr (.inr (.inr (.inr _)))))
    rw [e1, vp_cell_q, List.length_replicate]
    congr 2
    funext j
    have : (List.replicate N (none : Option Nat)).getD j none = none := by
      rw [List.getD_eq_getElem?_getD, List.getElem?_replicate]
      split <;> rfl
    rw [this]
    rfl
theorem z_aast {a r : Nat} {rs : List (Option Nat)} {fl : List (Option (Option Nat))} {i : Int} (hd : decode M.2.1 pc = .ok (.aastore, 1)) (hs : σ.1[a]? = some (.inr (.inr rs))) (hv : σ.1[r]? = some (.inl (3, fl))) (hi : 0 ≤ i ∧ i < (rs.length : Int)) (kk : z_Sem M nz (pc + 1) L st (z_u σ a (.inr (.inr (rs.set i.toNat (some r)))) (σ.2 a)) Q) : z_Sem M nz pc L (z_r r :: z_i i :: z_r a :: st) σ Q := by
  intro G p l e s m args below meth c Z H locs ls hX hZ hP hL hS hl hc
  rw [List.map_cons, List.map_cons, List.map_cons, z_cvr hP hs, z_cvr hP hv]
  have hi' : z_R i := (z_RvC (z_RvC hS).2).1
  refine va_astq hX.1 hX.2.1 hX.2.2.2.2.2.2.2.2.1 hP.1.1 (z_D hP.1) hP.2 a 3 r 3 (z_ws_get hs) rfl (z_ws_get hv) (show z_Cl[3]? = some (RX3, TX3, 12) from rfl) (z_in hi' hi.1 hi.2) hd (fun H1 locs1 hP1 _ hS1 => ?_)
  rw [z_clamp hi'] at hP1
  have hee : va_up (fun j => (rs.getD j none).map (z_ad G)) i.toNat (some (z_ad G r)) = fun j => ((rs.set i.toNat (some r)).getD j none).map (z_ad G) := by
    funext j
    simp only [va_up, List.getD_eq_getElem?_getD]
    by_cases hj : j = i.toNat
    · subst hj
      rw [if_pos rfl, List.getElem?_set_self (by omega)]
      rfl
    · rw [if_neg hj, List.getElem?_set_ne (Ne.symm hj)]
  rw [hee] at hP1
  have hP2 := z_Pset (c := .inr (.inr (rs.set i.toNat (some r)))) (f := σ.2 a) hP hs (fun j => hP.1.2.2.1 a j) (H1 := H1) (by
    have h9 : z_cell G (σ.2 a) (.inr (.inr (rs.set i.toNat (some r)))) = .inl (G.2.1 3, rs.length, .inr (.inr (.inr (.inr (fun j => ((rs.set i.toNat (some r)).getD j none).map (z_ad G)))))) := by simp [z_cell]
    rw [h9]; exact hP1) hS1
  have h9 := kk G p l e s m args below meth c Z H1 locs1 ls hX hZ hP2 hL (z_RvC (z_RvC (z_RvC hS).2).2).2 hl (by simpa [z_u] using hc)
  exact h9
theorem z_copyK {kd : Nat} {ty : FieldType} (hty : (kd = 0 ∧ ty = .int) ∨ (kd = 2 ∧ ty = .byte)) {a0 a n0 n1 idx : Nat} {sp dp n : Int} (hfit : ∀ i : Int, sp ≤ i → i < sp + n → fits ty (.int (Int32.ofInt (σ.2 a0 i))) = true) (hlk : Cond.methodLink M.1.cls idx arraycopyName ∈ z_tb) (hnat : Cond.native arraycopyName ∈ z_tb) (hstt : Cond.static arraycopyName ∈ z_tb) (hini : Cond.initialized "java/lang/System" ∈ z_tb) (hs0 : σ.1[a0]? = some (.inr (.inl (kd, n0)))) (hs : σ.1[a]? = some (.inr (.inl (kd, n1)))) (h1 : 0 ≤ sp ∧ 0 ≤ dp ∧ 0 ≤ n) (h2 : sp + n ≤ (n0 : Int) ∧ dp + n ≤ (n1 : Int))
    (hrm : 1 ≤ M.2.2.2.2.frames ∧ z_wds st + (nativeFrameWords "java/lang/System" "arraycopy" 5 + 11) ≤ M.2.2.2.2.locals) (hd : decode M.2.1 pc = .ok (.invokestatic idx, 3)) (kk : z_Sem M nz (pc + 3) L st (z_cp σ a0 sp a dp n) Q) : z_Sem M nz pc L (z_i n :: z_i dp :: z_r a :: z_i sp :: z_r a0 :: st) σ Q := by
  intro G p l e s m args below meth c Z H locs ls hX hZ hP hL hS hl hc
  have ht := hX.2.2.2.2.2.1
  simp only [List.map_cons]
  rw [z_cvr hP hs, z_cvr hP hs0]
  have hn' : z_R n := (z_RvC hS).1
  have hdp' : z_R dp := (z_RvC (z_RvC hS).2).1
  have hsp' : z_R sp := (z_RvC (z_RvC (z_RvC (z_RvC hS).2).2).2).1
  have g1 : ¬ Int32.ofInt sp < 0 := by rw [z_of0, z_lt hsp' z_zero]; omega
  have g2 : ¬ Int32.ofInt dp < 0 := by rw [z_of0, z_lt hdp' z_zero]; omega
  have g3 : ¬ Int32.ofInt n < 0 := by rw [z_of0, z_lt hn' z_zero]; omega
  have htk : (z_tys G)[kd]? = some (G.2.1 kd, ty) := by rcases hty with ⟨rfl, rfl⟩ | ⟨rfl, rfl⟩ <;> rfl
  have hpr : refKind ty = false := by rcases hty with ⟨rfl, rfl⟩ | ⟨rfl, rfl⟩ <;> rfl
  refine va_copyi (ty := ty) hX.1 hX.2.1 (hX.2.2.2.1.trans hl.1.symm) hX.2.2.2.2.1 (ht _ hlk) (ht _ hnat) (ht _ hstt) (ht _ hini) hX.2.2.2.2.2.2.2.2.1 hP.1.1 (z_D hP.1) hP.2 a0 a kd kd (z_ws_get hs0) (z_ws_get hs) htk htk hpr g1 g2 g3 (by rw [z_clamp hsp', z_clamp hn']; omega) (by rw [z_clamp hdp', z_clamp hn']; omega) (fun i hi => by rw [z_clamp hn'] at hi; rw [z_clamp hsp']; exact hfit _ (by omega) (by omega)) hrm.1 (by rw [z_wds_cat]; exact hrm.2) hd (fun H1 locs1 hP1 _ hS1 => ?_)
  rw [z_clamp hsp', z_clamp hdp', z_clamp hn'] at hP1
  have hee : va_cpy (fun j : Nat => Int32.ofInt (σ.2 a0 (j : Int))) (fun j : Nat => Int32.ofInt (σ.2 a (j : Int))) sp.toNat dp.toNat n.toNat = fun j : Nat => Int32.ofInt ((fun j : Int => if dp ≤ j ∧ j < dp + n then σ.2 a0 (sp + (j - dp)) else σ.2 a j) (j : Int)) := by
    funext j
    simp only [va_cpy]
    by_cases hj : dp.toNat ≤ j ∧ j < dp.toNat + n.toNat
    · rw [if_pos hj, if_pos (by omega)]
      rw [show ((sp.toNat + (j - dp.toNat) : Nat) : Int) = sp + ((j : Int) - dp) by omega]
    · rw [if_neg hj, if_neg (by omega)]
  rw [hee] at hP1
  have hP2 := z_Pset (c := .inr (.inl (kd, n1))) (f := fun j : Int => if dp ≤ j ∧ j < dp + n then σ.2 a0 (sp + (j - dp)) else σ.2 a j) hP hs (fun j => by split; exact hP.1.2.2.1 _ _; exact hP.1.2.2.1 _ _) (H1 := H1) hP1 hS1
  rw [z_cp_eq hs] at hP2
  exact kk G p l e s m args below meth c Z H1 locs1 ls hX hZ hP2 hL (fun q hq => hS q (by simp [hq])) hl hc
theorem z_copy {a0 a n0 n1 idx : Nat} {sp dp n : Int} (hlk : Cond.methodLink M.1.cls idx arraycopyName ∈ z_tb) (hnat : Cond.native arraycopyName ∈ z_tb) (hstt : Cond.static arraycopyName ∈ z_tb) (hini : Cond.initialized "java/lang/System" ∈ z_tb) (hs0 : σ.1[a0]? = some (.inr (.inl (0, n0)))) (hs : σ.1[a]? = some (.inr (.inl (0, n1)))) (h1 : 0 ≤ sp ∧ 0 ≤ dp ∧ 0 ≤ n) (h2 : sp + n ≤ (n0 : Int) ∧ dp + n ≤ (n1 : Int))
    (hrm : 1 ≤ M.2.2.2.2.frames ∧ z_wds st + (nativeFrameWords "java/lang/System" "arraycopy" 5 + 11) ≤ M.2.2.2.2.locals) (hd : decode M.2.1 pc = .ok (.invokestatic idx, 3)) (kk : z_Sem M nz (pc + 3) L st (z_cp σ a0 sp a dp n) Q) : z_Sem M nz pc L (z_i n :: z_i dp :: z_r a :: z_i sp :: z_r a0 :: st) σ Q :=
  z_copyK (Or.inl ⟨rfl, rfl⟩) (fun _ _ _ => rfl) hlk hnat hstt hini hs0 hs h1 h2 hrm hd kk
/-- from a String constant's bytes -/
theorem z_copyS {i a n1 idx : Nat} {sp dp n : Int} (hi : i < 35) (hb : ∀ j : Nat, j < z_len.getD i 0 → (z_byt.getD i []).getD j 0 = Int32.ofInt (σ.2 (1101 + i) (j : Int)) ∧ fits .byte (.int (Int32.ofInt (σ.2 (1101 + i) (j : Int)))) = true) (hlk : Cond.methodLink M.1.cls idx arraycopyName ∈ z_tb) (hnat : Cond.native arraycopyName ∈ z_tb) (hstt : Cond.static arraycopyName ∈ z_tb) (hini : Cond.initialized "java/lang/System" ∈ z_tb) (hs : σ.1[a]? = some (.inr (.inl (2, n1)))) (h1 : 0 ≤ sp ∧ 0 ≤ dp ∧ 0 ≤ n) (h2 : sp + n ≤ ((z_len.getD i 0 : Nat) : Int) ∧ dp + n ≤ (n1 : Int))
    (hrm : 1 ≤ M.2.2.2.2.frames ∧ z_wds st + (nativeFrameWords "java/lang/System" "arraycopy" 5 + 11) ≤ M.2.2.2.2.locals) (hd : decode M.2.1 pc = .ok (.invokestatic idx, 3)) (kk : z_Sem M nz (pc + 3) L st (z_cp σ (1101 + i) sp a dp n) Q) : z_Sem M nz pc L (z_i n :: z_i dp :: z_r a :: z_i sp :: z_r (1101 + i) :: st) σ Q := by
  intro G p l e s m args below meth c Z H locs ls hX hZ hP hL hS hl hc
  have ht := hX.2.2.2.2.2.1
  have hO := hX.2.2.2.2.2.2.2.2.2.1
  simp only [List.map_cons]
  rw [z_cvr hP hs]
  have hn' : z_R n := (z_RvC hS).1
  have hdp' : z_R dp := (z_RvC (z_RvC hS).2).1
  have hsp' : z_R sp := (z_RvC (z_RvC (z_RvC (z_RvC hS).2).2).2).1
  have g1 : ¬ Int32.ofInt sp < 0 := by rw [z_of0, z_lt hsp' z_zero]; omega
  have g2 : ¬ Int32.ofInt dp < 0 := by rw [z_of0, z_lt hdp' z_zero]; omega
  have g3 : ¬ Int32.ofInt n < 0 := by rw [z_of0, z_lt hn' z_zero]; omega
  refine vk_copyt (b0 := z_ad G (1101 + i)) (f := fun j => (z_byt.getD i []).getD j 0) hX.1 hX.2.1 (hX.2.2.2.1.trans hl.1.symm) hX.2.2.2.2.1 (ht _ hlk) (ht _ hnat) (ht _ hstt) (ht _ hini) hX.2.2.2.2.2.2.2.2.1 hP.1.1 (z_D hP.1) hP.2 (hO.2.1 i hi).2.2.2 a 2 (z_ws_get hs) rfl g1 g2 g3 (by rw [z_clamp hsp', z_clamp hn']; omega) (by rw [z_clamp hdp', z_clamp hn']; omega) (fun j hj => by rw [z_clamp hn'] at hj; rw [z_clamp hsp', (hb _ (by omega)).1]; exact (hb _ (by omega)).2) hrm.1 (by rw [z_wds_cat]; exact hrm.2) hd (fun H1 locs1 hP1 _ hS1 => ?_)
  rw [z_clamp hsp', z_clamp hdp', z_clamp hn'] at hP1
  have hee : va_cpy (fun j : Nat => (z_byt.getD i []).getD j 0) (fun j : Nat => Int32.ofInt (σ.2 a (j : Int))) sp.toNat dp.toNat n.toNat = fun j : Nat => Int32.ofInt ((fun j : Int => if dp ≤ j ∧ j < dp + n then σ.2 (1101 + i) (sp + (j - dp)) else σ.2 a j) (j : Int)) := by
    funext j
    simp only [va_cpy]
    by_cases hj : dp.toNat ≤ j ∧ j < dp.toNat + n.toNat
    · rw [if_pos hj, if_pos (by omega), (hb _ (by omega)).1]
      rw [show ((sp.toNat + (j - dp.toNat) : Nat) : Int) = sp + ((j : Int) - dp) by omega]
    · rw [if_neg hj, if_neg (by omega)]
  rw [hee] at hP1
  have hP2 := z_Pset (c := .inr (.inl (2, n1))) (f := fun j : Int => if dp ≤ j ∧ j < dp + n then σ.2 (1101 + i) (sp + (j - dp)) else σ.2 a j) hP hs (fun j => by split; exact hP.1.2.2.1 _ _; exact hP.1.2.2.1 _ _) (H1 := H1) hP1 hS1
  rw [z_cp_eq hs] at hP2
  exact kk G p l e s m args below meth c Z H1 locs1 ls hX hZ hP2 hL (fun q hq => hS q (by simp [hq])) hl hc
/-! floats -/
theorem z_i2f {x : Int} (hd : decode M.2.1 pc = .ok (.i2f, 1)) (k : z_Sem M nz (pc + 1) L (z_f (FP.i2f (Int32.ofInt x)) :: st) σ Q) : z_Sem M nz pc L (z_i x :: st) σ Q :=
  z_pure (fun _ _ _ _ _ _ _ _ _ _ _ _ _ ls hX _ _ _ hl kk => lv_i2f hX.1 hX.2.1 hd (kk ls hl)) (fun h _ => h) (fun _ h => z_RvF (z_RvC h).2) k
theorem z_i2d {x : Int} (hd : decode M.2.1 pc = .ok (.i2d, 1)) (k : z_Sem M nz (pc + 1) L (z_d (FP.i2d (Int32.ofInt x)) :: st) σ Q) : z_Sem M nz pc L (z_i x :: st) σ Q :=
  z_pure (fun _ _ _ _ _ _ _ _ _ _ _ _ _ ls hX _ _ _ hl kk => lv_i2d hX.1 hX.2.1 hd (kk ls hl)) (fun h _ => h) (fun _ h => z_RvD (z_RvC h).2) k
theorem z_f2d {x : UInt32} (hd : decode M.2.1 pc = .ok (.f2d, 1)) (hn : vf_n64 (FP.f2d x)) (k : z_Sem M nz (pc + 1) L (z_d (FP.f2d x) :: st) σ Q) : z_Sem M nz pc L (z_f x :: st) σ Q :=
  z_pure (fun _ _ _ _ _ _ _ _ _ _ _ _ _ ls hX _ _ _ hl kk => lv_f2d hX.1 hX.2.1 hd hn (kk ls hl)) (fun h _ => h) (fun _ h => z_RvD (z_RvC h).2) k
theorem z_fdiv {x y : UInt32} (hd : decode M.2.1 pc = .ok (.fdiv, 1)) (hn : vf_n32 (FP.fdiv x y)) (k : z_Sem M nz (pc + 1) L (z_f (FP.fdiv x y) :: st) σ Q) : z_Sem M nz pc L (z_f y :: z_f x :: st) σ Q :=
  z_pure (fun _ _ _ _ _ _ _ _ _ _ _ _ _ ls hX _ _ _ hl kk => lv_fdiv hX.1 hX.2.1 hd hn (kk ls hl)) (fun h _ => h) (fun _ h => z_RvF (z_RvC (z_RvC h).2).2) k
theorem z_ddiv {x y : UInt64} (hd : decode M.2.1 pc = .ok (.ddiv, 1)) (hn : vf_n64 (FP.ddiv x y)) (k : z_Sem M nz (pc + 1) L (z_d (FP.ddiv x y) :: st) σ Q) : z_Sem M nz pc L (z_d y :: z_d x :: st) σ Q :=
  z_pure (fun _ _ _ _ _ _ _ _ _ _ _ _ _ ls hX _ _ _ hl kk => lv_ddiv hX.1 hX.2.1 hd hn (kk ls hl)) (fun h _ => h) (fun _ h => z_RvD (z_RvC (z_RvC h).2).2) k
theorem z_fconst0 (hd : decode M.2.1 pc = .ok (.fconst 0, 1)) (k : z_Sem M nz (pc + 1) L (z_f FP.fconst0 :: st) σ Q) : z_Sem M nz pc L st σ Q :=
  z_pure (fun _ _ _ _ _ _ _ _ _ _ _ _ _ ls hX _ _ _ hl kk => lv_fconst0 hX.1 hX.2.1 hd (kk ls hl)) (fun h _ => h) (fun _ h => z_RvF h) k
theorem z_dconst0 (hd : decode M.2.1 pc = .ok (.dconst 0, 1)) (k : z_Sem M nz (pc + 1) L (z_d FP.dconst0 :: st) σ Q) : z_Sem M nz pc L st σ Q :=
  z_pure (fun _ _ _ _ _ _ _ _ _ _ _ _ _ ls hX _ _ _ hl kk => lv_dconst0 hX.1 hX.2.1 hd (kk ls hl)) (fun h _ => h) (fun _ h => z_RvD h) k
theorem z_dcmp {x y : UInt64} {op : CmpOp} {v : Int} (hd : decode M.2.1 pc = .ok (.dcmp op, 1)) (hv : Op.cmpValue (FP.dcmp x y) op = Int32.ofInt v) (hr : z_R v) (k : z_Sem M nz (pc + 1) L (z_i v :: st) σ Q) : z_Sem M nz pc L (z_d y :: z_d x :: st) σ Q :=
  z_pure (fun _ _ _ _ _ _ _ _ _ _ _ _ _ ls hX _ _ _ hl kk => lv_dcmp hX.1 hX.2.1 hd (by rw [hv]; exact kk ls hl)) (fun h _ => h) (fun _ h => z_RvI hr (z_RvC (z_RvC h).2).2) k
theorem z_fcmp {x y : UInt32} {op : CmpOp} {v : Int} (hd : decode M.2.1 pc = .ok (.fcmp op, 1)) (hv : Op.cmpValue (FP.fcmp x y) op = Int32.ofInt v) (hr : z_R v) (k : z_Sem M nz (pc + 1) L (z_i v :: st) σ Q) : z_Sem M nz pc L (z_f y :: z_f x :: st) σ Q :=
  z_pure (fun _ _ _ _ _ _ _ _ _ _ _ _ _ ls hX _ _ _ hl kk => lv_fcmp hX.1 hX.2.1 hd (by rw [hv]; exact kk ls hl)) (fun h _ => h) (fun _ h => z_RvI hr (z_RvC (z_RvC h).2).2) k
def z_or (x y : Int) : Int := (Int32.ofInt x ||| Int32.ofInt y).toInt
def z_shl (x y : Int) : Int := (Int32.ofInt x <<< (Int32.ofInt y &&& 31)).toInt
theorem z_ior {x y : Int} (hd : decode M.2.1 pc = .ok (.ior, 1)) (k : z_Sem M nz (pc + 1) L (z_i (z_or x y) :: st) σ Q) : z_Sem M nz pc L (z_i y :: z_i x :: st) σ Q :=
  z_pure (fun _ _ _ _ _ _ _ _ _ _ _ _ _ ls hX _ _ _ hl kk => lv_ior hX.1 hX.2.1 hd (by have h := kk ls hl; simp only [List.map_cons, z_cv, z_or, Int32.ofInt_toInt] at h; exact h)) (fun h _ => h) (fun _ h => z_RvI (z_Rto _) (z_RvC (z_RvC h).2).2) k
theorem z_ishl {x y : Int} (hd : decode M.2.1 pc = .ok (.ishl, 1)) (k : z_Sem M nz (pc + 1) L (z_i (z_shl x y) :: st) σ Q) : z_Sem M nz pc L (z_i y :: z_i x :: st) σ Q :=
  z_pure (fun _ _ _ _ _ _ _ _ _ _ _ _ _ ls hX _ _ _ hl kk => lv_ishl hX.1 hX.2.1 hd (by have h := kk ls hl; simp only [List.map_cons, z_cv, z_shl, Int32.ofInt_toInt] at h; exact h)) (fun h _ => h) (fun _ h => z_RvI (z_Rto _) (z_RvC (z_RvC h).2).2) k
/-- arithmetic that may pass the range -/
def z_nrm (x : Int) : Int := (Int32.ofInt x).toInt
theorem z_imulW {x y : Int} (hd : decode M.2.1 pc = .ok (.imul, 1)) (k : z_Sem M nz (pc + 1) L (z_i (z_nrm (x * y)) :: st) σ Q) : z_Sem M nz pc L (z_i y :: z_i x :: st) σ Q :=
  z_pure (fun _ _ _ _ _ _ _ _ _ _ _ _ _ ls hX _ _ _ hl kk => lv_imul hX.1 hX.2.1 hd (by have h := kk ls hl; simp only [List.map_cons, z_cv, z_nrm, Int32.ofInt_toInt, Int32.ofInt_mul] at h; exact h)) (fun h _ => h) (fun _ h => z_RvI (z_Rto _) (z_RvC (z_RvC h).2).2) k
theorem z_iaddW {x y : Int} (hd : decode M.2.1 pc = .ok (.iadd, 1)) (k : z_Sem M nz (pc + 1) L (z_i (z_nrm (x + y)) :: st) σ Q) : z_Sem M nz pc L (z_i y :: z_i x :: st) σ Q :=
  z_pure (fun _ _ _ _ _ _ _ _ _ _ _ _ _ ls hX _ _ _ hl kk => lv_iadd hX.1 hX.2.1 hd (by have h := kk ls hl; simp only [List.map_cons, z_cv, z_nrm, Int32.ofInt_toInt, Int32.ofInt_add] at h; exact h)) (fun h _ => h) (fun _ h => z_RvI (z_Rto _) (z_RvC (z_RvC h).2).2) k
theorem z_nonnull {a tgt : Nat} {off : Int} (hd : decode M.2.1 pc = .ok (.ifnonnull off, 3)) (ht : (pc : Int) + off = (tgt : Int)) (k : z_Sem M nz tgt L st σ Q) : z_Sem M nz pc L (z_r a :: st) σ Q :=
  z_pure (fun _ _ _ _ _ _ _ _ _ _ _ _ _ ls hX _ _ _ hl kk => lv_ifnonnull hX.1 hX.2.1 hd ht (kk ls hl)) (fun h _ => h) (fun _ h => (z_RvC h).2) k
theorem z_dup_x1 {x y : z_V} (hd : decode M.2.1 pc = .ok (.dup_x1, 1)) (h1 : z_c2 x = false) (h2 : z_c2 y = false) (k : z_Sem M nz (pc + 1) L (x :: y :: x :: st) σ Q) : z_Sem M nz pc L (x :: y :: st) σ Q :=
  z_pure (fun G _ _ _ _ _ _ _ _ _ _ _ _ ls hX _ _ _ hl kk => lv_dup_x1 hX.1 hX.2.1 hd (by rcases x with x | x | x | x | (_ | x) <;> first | rfl | cases h1) (by rcases y with x | x | x | x | (_ | x) <;> first | rfl | cases h2) (kk ls hl)) (fun h _ => h) (fun _ h => z_RvM (z_RvC h).1 (z_RvM (z_RvC (z_RvC h).2).1 (z_RvM (z_RvC h).1 (z_RvC (z_RvC h).2).2))) k
/-! String constants' insides -/
theorem z_strval {i : Nat} {fin : Unit} (hi : i < 35) (hown : M.1.cls = "java/lang/String") (hlk : Cond.fieldLink "java/lang/String" 9 "java/lang/String" "value" "[B" ∈ z_tb) (hd : decode M.2.1 pc = .ok (.getfield 9, 3)) (kk : z_Sem M nz (pc + 3) L (z_r (1101 + i) :: st) σ Q) : z_Sem M nz pc L (z_r (1001 + i) :: st) σ Q := by
  intro G p l e s m args below meth c Z H locs ls hX hZ hP hL hS hl hc
  have ht := hX.2.2.2.2.2.1
  have hO := hX.2.2.2.2.2.2.2.2.2.1
  have e1 : z_cv G (z_r (1001 + i)) = .ref (z_ad G (1001 + i)) := rfl
  have e2 : z_cv G (z_r (1101 + i)) = .ref (z_ad G (1101 + i)) := rfl
  have h9 := kk G p l e s m args below meth c Z H locs ls hX hZ hP hL (z_RvN (z_RvC hS).2) hl hc
  rw [List.map_cons, e2] at h9
  rw [List.map_cons, e1]
  exact vk_getf (ref := "java/lang/String") hX.1 hX.2.1 (hO.2.1 i hi).2.2.1 hP.2 (by rw [← hown]; exact hX.2.2.2.2.1) (ht _ hlk) (fun x hx => hx) hd h9
theorem z_strcod {i : Nat} (hi : i < 35) (hown : M.1.cls = "java/lang/String") (hlk : Cond.fieldLink "java/lang/String" 15 "java/lang/String" "coder" "B" ∈ z_tb) (hd : decode M.2.1 pc = .ok (.getfield 15, 3)) (kk : z_Sem M nz (pc + 3) L (z_i 0 :: st) σ Q) : z_Sem M nz pc L (z_r (1001 + i) :: st) σ Q := by
  intro G p l e s m args below meth c Z H locs ls hX hZ hP hL hS hl hc
  have ht := hX.2.2.2.2.2.1
  have hO := hX.2.2.2.2.2.2.2.2.2.1
  have e1 : z_cv G (z_r (1001 + i)) = .ref (z_ad G (1001 + i)) := rfl
  have h9 := kk G p l e s m args below meth c Z H locs ls hX hZ hP hL (z_RvI z_zero (z_RvC hS).2) hl hc
  rw [List.map_cons, e1]
  exact vk_getf (ref := "java/lang/String") hX.1 hX.2.1 (hO.2.1 i hi).2.1 hP.2 (by rw [← hown]; exact hX.2.2.2.2.1) (ht _ hlk) (fun x hx => hx) hd h9
theorem z_strlen {i : Nat} (hi : i < 35) (hd : decode M.2.1 pc = .ok (.arraylength, 1)) (hr : z_R (z_len.getD i 0 : Nat)) (kk : z_Sem M nz (pc + 1) L (z_i (z_len.getD i 0 : Nat) :: st) σ Q) : z_Sem M nz pc L (z_r (1101 + i) :: st) σ Q := by
  intro G p l e s m args below meth c Z H locs ls hX hZ hP hL hS hl hc
  have hO := hX.2.2.2.2.2.2.2.2.2.1
  have e2 : z_cv G (z_r (1101 + i)) = .ref (z_ad G (1101 + i)) := rfl
  have h9 := kk G p l e s m args below meth c Z H locs ls hX hZ hP hL (z_RvI hr (z_RvC hS).2) hl hc
  rw [List.map_cons, e2]
  exact va_tlen hX.1 hX.2.1 (hO.2.1 i hi).2.2.2 hP.2 (v := Int32.ofInt (z_len.getD i 0 : Nat)) rfl hd h9
theorem z_strald {i : Nat} {j v : Int} (hi : i < 35) (hd : decode M.2.1 pc = .ok (.baload, 1)) (hj : 0 ≤ j ∧ j < (z_len.getD i 0 : Nat)) (hv : (z_byt.getD i []).getD j.toNat 0 = Int32.ofInt v) (hr : z_R v) (kk : z_Sem M nz (pc + 1) L (z_i v :: st) σ Q) : z_Sem M nz pc L (z_i j :: z_r (1101 + i) :: st) σ Q := by
  intro G p l e s m args below meth c Z H locs ls hX hZ hP hL hS hl hc
  have hO := hX.2.2.2.2.2.2.2.2.2.1
  have e2 : z_cv G (z_r (1101 + i)) = .ref (z_ad G (1101 + i)) := rfl
  have hj' : z_R j := (z_RvC hS).1
  have h9 := kk G p l e s m args below meth c Z H locs ls hX hZ hP hL (z_RvI hr (z_RvC (z_RvC hS).2).2) hl hc
  rw [List.map_cons, List.map_cons, e2]
  refine va_tb hX.1 hX.2.1 (hO.2.1 i hi).2.2.2 hP.2 (z_in hj' hj.1 hj.2) (v := .int (Int32.ofInt v)) ?_ hd h9
  rw [z_clamp hj', hv]
theorem z_getCS {ix : Nat} (hlk : Cond.fieldLink M.1.cls ix "java/lang/String" "COMPACT_STRINGS" "Z" ∈ z_tb) (hd : decode M.2.1 pc = .ok (.getstatic ix, 3)) (kk : z_Sem M nz (pc + 3) L (z_i 1 :: st) σ Q) : z_Sem M nz pc L st σ Q := by
  intro G p l e s m args below meth c Z H locs ls hX hZ hP hL hS hl hc
  have ht := hX.2.2.2.2.2.1
  have hO := hX.2.2.2.2.2.2.2.2.2.1
  have h9 := kk G p l e s m args below meth c Z H locs ls hX hZ hP hL (z_RvI (by constructor <;> decide) hS) hl hc
  exact va_gets (ref := "java/lang/String") hX.1 hX.2.1 hO.2.2.2.1 hP.2 hX.2.2.2.2.1 (ht _ hlk) (fun x hx => hx) hd h9
theorem z_getSF (hown : M.1.cls = "java/lang/String") (hlk : Cond.fieldLink "java/lang/String" 1053 "jdk/internal/util/Preconditions" "SIOOBE_FORMATTER" "Ljava/util/function/BiFunction;" ∈ z_tb) (hd : decode M.2.1 pc = .ok (.getstatic 1053, 3)) (kk : ∀ v : z_V, z_c1 v → z_c2 v = false → z_Sem M nz (pc + 3) L (v :: st) σ Q) : z_Sem M nz pc L st σ Q := by
  intro G p l e s m args below meth c Z H locs ls hX hZ hP hL hS hl hc
  have ht := hX.2.2.2.2.2.1
  have hO := hX.2.2.2.2.2.2.2.2.2.1
  rcases hO.2.2.2.2.1.1 with h | ⟨t, h⟩
  · have h9 := kk (z_x none) True.intro rfl G p l e s m args below meth c Z H locs ls hX hZ hP hL (z_RvM (x := z_x none) True.intro hS) hl hc
    exact va_gets (ref := "jdk/internal/util/Preconditions") hX.1 hX.2.1 h hP.2 (by rw [← hown]; exact hX.2.2.2.2.1) (ht _ hlk) (fun x hx => hx) hd h9
  · have h9 := kk (z_x (some t)) True.intro rfl G p l e s m args below meth c Z H locs ls hX hZ hP hL (z_RvM (x := z_x (some t)) True.intro hS) hl hc
    exact va_gets (ref := "jdk/internal/util/Preconditions") hX.1 hX.2.1 h hP.2 (by rw [← hown]; exact hX.2.2.2.2.1) (ht _ hlk) (fun x hx => hx) hd h9
theorem z_getDO {ix : Nat} (hlk : Cond.fieldLink M.1.cls ix "java/lang/Integer" "DigitOnes" "[B" ∈ z_tb) (hd : decode M.2.1 pc = .ok (.getstatic ix, 3)) (kk : z_Sem M nz (pc + 3) L (z_r 1201 :: st) σ Q) : z_Sem M nz pc L st σ Q := by
  intro G p l e s m args below meth c Z H locs ls hX hZ hP hL hS hl hc
  have ht := hX.2.2.2.2.2.1
  have hO := hX.2.2.2.2.2.2.2.2.2.1
  have h9 := kk G p l e s m args below meth c Z H locs ls hX hZ hP hL (z_RvN hS) hl hc
  exact va_gets (ref := "java/lang/Integer") hX.1 hX.2.1 hO.2.2.2.2.2.2.1.1 hP.2 hX.2.2.2.2.1 (ht _ hlk) (fun x hx => hx) hd h9
theorem z_getDT {ix : Nat} (hlk : Cond.fieldLink M.1.cls ix "java/lang/Integer" "DigitTens" "[B" ∈ z_tb) (hd : decode M.2.1 pc = .ok (.getstatic ix, 3)) (kk : z_Sem M nz (pc + 3) L (z_r 1202 :: st) σ Q) : z_Sem M nz pc L st σ Q := by
  intro G p l e s m args below meth c Z H locs ls hX hZ hP hL hS hl hc
  have ht := hX.2.2.2.2.2.1
  have hO := hX.2.2.2.2.2.2.2.2.2.1
  have h9 := kk G p l e s m args below meth c Z H locs ls hX hZ hP hL (z_RvN hS) hl hc
  exact va_gets (ref := "java/lang/Integer") hX.1 hX.2.1 hO.2.2.2.2.2.2.2.1 hP.2 hX.2.2.2.2.1 (ht _ hlk) (fun x hx => hx) hd h9
theorem z_ald1 {j : Int} (hd : decode M.2.1 pc = .ok (.baload, 1)) (hj : 0 ≤ j ∧ j < 100) (kk : z_Sem M nz (pc + 1) L (z_i (48 + j % 10) :: st) σ Q) : z_Sem M nz pc L (z_i j :: z_r 1201 :: st) σ Q := by
  intro G p l e s m args below meth c Z H locs ls hX hZ hP hL hS hl hc
  have hO := hX.2.2.2.2.2.2.2.2.2.1
  have hj' : z_R j := (z_RvC hS).1
  have h9 := kk G p l e s m args below meth c Z H locs ls hX hZ hP hL (z_RvI ⟨by omega, by omega⟩ (z_RvC (z_RvC hS).2).2) hl hc
  refine va_tb hX.1 hX.2.1 hO.2.2.2.2.2.2.1.2 hP.2 (z_in hj' hj.1 (by show j < ((100 : Nat) : Int); omega)) (v := .int (Int32.ofInt (48 + j % 10))) ?_ hd h9
  rw [z_clamp hj']
  show Value.int (Int32.ofNat (48 + j.toNat % 10)) = _
  rw [show (48 + j % 10 : Int) = ((48 + j.toNat % 10 : Nat) : Int) by omega]
  rfl
theorem z_ald2 {j : Int} (hd : decode M.2.1 pc = .ok (.baload, 1)) (hj : 0 ≤ j ∧ j < 100) (kk : z_Sem M nz (pc + 1) L (z_i (48 + j / 10) :: st) σ Q) : z_Sem M nz pc L (z_i j :: z_r 1202 :: st) σ Q := by
  intro G p l e s m args below meth c Z H locs ls hX hZ hP hL hS hl hc
  have hO := hX.2.2.2.2.2.2.2.2.2.1
  have hj' : z_R j := (z_RvC hS).1
  have h9 := kk G p l e s m args below meth c Z H locs ls hX hZ hP hL (z_RvI ⟨by omega, by omega⟩ (z_RvC (z_RvC hS).2).2) hl hc
  refine va_tb hX.1 hX.2.1 hO.2.2.2.2.2.2.2.2 hP.2 (z_in hj' hj.1 (by show j < ((100 : Nat) : Int); omega)) (v := .int (Int32.ofInt (48 + j / 10))) ?_ hd h9
  rw [z_clamp hj']
  show Value.int (Int32.ofNat (48 + j.toNat / 10)) = _
  rw [show (48 + j / 10 : Int) = ((48 + j.toNat / 10 : Nat) : Int) by omega]
  rfl
end ZRULES3
end
