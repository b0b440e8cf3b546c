-- ===== PART A: goes FIRST, ahead of the names: the tables' words, and 'selects' of the private methods out of them =====
/-- a private method of a class that the tables say can be made, by its rows of tables_1 -/
def lw_okq (q : MethodName × Nat) : Prop := (q.1.cls ≠ "java/lang/invoke/MethodHandle" ∧ q.1.cls ≠ "java/lang/invoke/VarHandle") ∧ Cond.instantiable q.1.cls q.2 ∈ tables_1 ∧ Cond.privateMethod q.1 ∈ tables_1 ∧ Cond.instanceMethod q.1 ∈ tables_1
theorem lw_p0 : lw_okq (⟨"TimeGaps$Plan", "clear", "()V"⟩, 12) := ⟨⟨by decide +kernel, by decide +kernel⟩, List.mem_of_getElem? (i := 26) (by decide +kernel), List.mem_of_getElem? (i := 247) (by decide +kernel), List.mem_of_getElem? (i := 248) (by decide +kernel)⟩
theorem lw_p1 : lw_okq (⟨"TimeGaps$Log", "clear", "()V"⟩, 3) := ⟨⟨by decide +kernel, by decide +kernel⟩, List.mem_of_getElem? (i := 32) (by decide +kernel), List.mem_of_getElem? (i := 251) (by decide +kernel), List.mem_of_getElem? (i := 252) (by decide +kernel)⟩
theorem lw_p2 : lw_okq (⟨"TimeGaps$Plan", "addStart", "()V"⟩, 12) := ⟨⟨by decide +kernel, by decide +kernel⟩, List.mem_of_getElem? (i := 26) (by decide +kernel), List.mem_of_getElem? (i := 255) (by decide +kernel), List.mem_of_getElem? (i := 256) (by decide +kernel)⟩
theorem lw_p3 : lw_okq (⟨"TimeGaps$Net", "build", "(LTimeGaps$Plan;I)V"⟩, 7) := ⟨⟨by decide +kernel, by decide +kernel⟩, List.mem_of_getElem? (i := 122) (by decide +kernel), List.mem_of_getElem? (i := 308) (by decide +kernel), List.mem_of_getElem? (i := 309) (by decide +kernel)⟩
theorem lw_p4 : lw_okq (⟨"TimeGaps$Net", "collectSteps", "(LTimeGaps$Plan;I)V"⟩, 7) := ⟨⟨by decide +kernel, by decide +kernel⟩, List.mem_of_getElem? (i := 122) (by decide +kernel), List.mem_of_getElem? (i := 312) (by decide +kernel), List.mem_of_getElem? (i := 313) (by decide +kernel)⟩
theorem lw_p5 : lw_okq (⟨"TimeGaps$Net", "collect", "(IIII)V"⟩, 7) := ⟨⟨by decide +kernel, by decide +kernel⟩, List.mem_of_getElem? (i := 122) (by decide +kernel), List.mem_of_getElem? (i := 325) (by decide +kernel), List.mem_of_getElem? (i := 326) (by decide +kernel)⟩
theorem lw_p6 : lw_okq (⟨"TimeGaps$Plan", "isPinned", "(I)Z"⟩, 12) := ⟨⟨by decide +kernel, by decide +kernel⟩, List.mem_of_getElem? (i := 26) (by decide +kernel), List.mem_of_getElem? (i := 329) (by decide +kernel), List.mem_of_getElem? (i := 330) (by decide +kernel)⟩
theorem lw_p7 : lw_okq (⟨"TimeGaps$Net", "startWeights", "()V"⟩, 7) := ⟨⟨by decide +kernel, by decide +kernel⟩, List.mem_of_getElem? (i := 122) (by decide +kernel), List.mem_of_getElem? (i := 333) (by decide +kernel), List.mem_of_getElem? (i := 334) (by decide +kernel)⟩
theorem lw_p8 : lw_okq (⟨"TimeGaps$Net", "closeWeights", "()V"⟩, 7) := ⟨⟨by decide +kernel, by decide +kernel⟩, List.mem_of_getElem? (i := 122) (by decide +kernel), List.mem_of_getElem? (i := 344) (by decide +kernel), List.mem_of_getElem? (i := 345) (by decide +kernel)⟩
theorem lw_p9 : lw_okq (⟨"TimeGaps$Tape", "putFourBytes", "(I)V"⟩, 2) := ⟨⟨by decide +kernel, by decide +kernel⟩, List.mem_of_getElem? (i := 194) (by decide +kernel), List.mem_of_getElem? (i := 381) (by decide +kernel), List.mem_of_getElem? (i := 382) (by decide +kernel)⟩
theorem lw_p10 : lw_okq (⟨"TimeGaps$SetupReader", "read", "()Z"⟩, 6) := ⟨⟨by decide +kernel, by decide +kernel⟩, List.mem_of_getElem? (i := 188) (by decide +kernel), List.mem_of_getElem? (i := 393) (by decide +kernel), List.mem_of_getElem? (i := 394) (by decide +kernel)⟩
theorem lw_p11 : lw_okq (⟨"TimeGaps$SetupReader", "next", "()V"⟩, 6) := ⟨⟨by decide +kernel, by decide +kernel⟩, List.mem_of_getElem? (i := 188) (by decide +kernel), List.mem_of_getElem? (i := 398) (by decide +kernel), List.mem_of_getElem? (i := 399) (by decide +kernel)⟩
theorem lw_p12 : lw_okq (⟨"TimeGaps$Tape", "countSpaces", "(I)I"⟩, 2) := ⟨⟨by decide +kernel, by decide +kernel⟩, List.mem_of_getElem? (i := 194) (by decide +kernel), List.mem_of_getElem? (i := 402) (by decide +kernel), List.mem_of_getElem? (i := 403) (by decide +kernel)⟩
theorem lw_p13 : lw_okq (⟨"TimeGaps$Tape", "byteAt", "(I)I"⟩, 2) := ⟨⟨by decide +kernel, by decide +kernel⟩, List.mem_of_getElem? (i := 194) (by decide +kernel), List.mem_of_getElem? (i := 406) (by decide +kernel), List.mem_of_getElem? (i := 407) (by decide +kernel)⟩
theorem lw_p14 : lw_okq (⟨"TimeGaps$Tape", "countLetters", "(I)I"⟩, 2) := ⟨⟨by decide +kernel, by decide +kernel⟩, List.mem_of_getElem? (i := 194) (by decide +kernel), List.mem_of_getElem? (i := 414) (by decide +kernel), List.mem_of_getElem? (i := 415) (by decide +kernel)⟩
theorem lw_p15 : lw_okq (⟨"TimeGaps$Tape", "countDigits", "(I)I"⟩, 2) := ⟨⟨by decide +kernel, by decide +kernel⟩, List.mem_of_getElem? (i := 194) (by decide +kernel), List.mem_of_getElem? (i := 422) (by decide +kernel), List.mem_of_getElem? (i := 423) (by decide +kernel)⟩
def lw_privs_1 : List (MethodName × Nat) := [(⟨"TimeGaps$Plan", "clear", "()V"⟩, 12), (⟨"TimeGaps$Log", "clear", "()V"⟩, 3), (⟨"TimeGaps$Plan", "addStart", "()V"⟩, 12), (⟨"TimeGaps$Net", "build", "(LTimeGaps$Plan;I)V"⟩, 7), (⟨"TimeGaps$Net", "collectSteps", "(LTimeGaps$Plan;I)V"⟩, 7), (⟨"TimeGaps$Net", "collect", "(IIII)V"⟩, 7), (⟨"TimeGaps$Plan", "isPinned", "(I)Z"⟩, 12), (⟨"TimeGaps$Net", "startWeights", "()V"⟩, 7), (⟨"TimeGaps$Net", "closeWeights", "()V"⟩, 7), (⟨"TimeGaps$Tape", "putFourBytes", "(I)V"⟩, 2), (⟨"TimeGaps$SetupReader", "read", "()Z"⟩, 6), (⟨"TimeGaps$SetupReader", "next", "()V"⟩, 6), (⟨"TimeGaps$Tape", "countSpaces", "(I)I"⟩, 2), (⟨"TimeGaps$Tape", "byteAt", "(I)I"⟩, 2), (⟨"TimeGaps$Tape", "countLetters", "(I)I"⟩, 2), (⟨"TimeGaps$Tape", "countDigits", "(I)I"⟩, 2)]
theorem lw_r1 : ∀ q ∈ lw_privs_1, lw_okq q := List.forall_mem_cons.mpr ⟨lw_p0, List.forall_mem_cons.mpr ⟨lw_p1, List.forall_mem_cons.mpr ⟨lw_p2, List.forall_mem_cons.mpr ⟨lw_p3, List.forall_mem_cons.mpr ⟨lw_p4, List.forall_mem_cons.mpr ⟨lw_p5, List.forall_mem_cons.mpr ⟨lw_p6, List.forall_mem_cons.mpr ⟨lw_p7, List.forall_mem_cons.mpr ⟨lw_p8, List.forall_mem_cons.mpr ⟨lw_p9, List.forall_mem_cons.mpr ⟨lw_p10, List.forall_mem_cons.mpr ⟨lw_p11, List.forall_mem_cons.mpr ⟨lw_p12, List.forall_mem_cons.mpr ⟨lw_p13, List.forall_mem_cons.mpr ⟨lw_p14, List.forall_mem_cons.mpr ⟨lw_p15, fun _ h => absurd h List.not_mem_nil⟩⟩⟩⟩⟩⟩⟩⟩⟩⟩⟩⟩⟩⟩⟩⟩
theorem lw_p16 : lw_okq (⟨"TimeGaps$SetupReader", "readEnd", "()Z"⟩, 6) := ⟨⟨by decide +kernel, by decide +kernel⟩, List.mem_of_getElem? (i := 188) (by decide +kernel), List.mem_of_getElem? (i := 427) (by decide +kernel), List.mem_of_getElem? (i := 428) (by decide +kernel)⟩
theorem lw_p17 : lw_okq (⟨"TimeGaps$SetupReader", "takeWord", "(Ljava/lang/String;)Z"⟩, 6) := ⟨⟨by decide +kernel, by decide +kernel⟩, List.mem_of_getElem? (i := 188) (by decide +kernel), List.mem_of_getElem? (i := 432) (by decide +kernel), List.mem_of_getElem? (i := 433) (by decide +kernel)⟩
theorem lw_p18 : lw_okq (⟨"TimeGaps$SetupReader", "isHere", "(Ljava/lang/String;)Z"⟩, 6) := ⟨⟨by decide +kernel, by decide +kernel⟩, List.mem_of_getElem? (i := 188) (by decide +kernel), List.mem_of_getElem? (i := 436) (by decide +kernel), List.mem_of_getElem? (i := 437) (by decide +kernel)⟩
theorem lw_p19 : lw_okq (⟨"TimeGaps$Tape", "spells", "(IILjava/lang/String;)Z"⟩, 2) := ⟨⟨by decide +kernel, by decide +kernel⟩, List.mem_of_getElem? (i := 194) (by decide +kernel), List.mem_of_getElem? (i := 440) (by decide +kernel), List.mem_of_getElem? (i := 441) (by decide +kernel)⟩
theorem lw_p20 : lw_okq (⟨"TimeGaps$SetupReader", "numberHere", "()I"⟩, 6) := ⟨⟨by decide +kernel, by decide +kernel⟩, List.mem_of_getElem? (i := 188) (by decide +kernel), List.mem_of_getElem? (i := 446) (by decide +kernel), List.mem_of_getElem? (i := 447) (by decide +kernel)⟩
theorem lw_p21 : lw_okq (⟨"TimeGaps$SetupReader", "takeSemicolon", "()Z"⟩, 6) := ⟨⟨by decide +kernel, by decide +kernel⟩, List.mem_of_getElem? (i := 188) (by decide +kernel), List.mem_of_getElem? (i := 450) (by decide +kernel), List.mem_of_getElem? (i := 451) (by decide +kernel)⟩
theorem lw_p22 : lw_okq (⟨"TimeGaps$SetupReader", "readEvent", "()Z"⟩, 6) := ⟨⟨by decide +kernel, by decide +kernel⟩, List.mem_of_getElem? (i := 188) (by decide +kernel), List.mem_of_getElem? (i := 455) (by decide +kernel), List.mem_of_getElem? (i := 456) (by decide +kernel)⟩
theorem lw_p23 : lw_okq (⟨"TimeGaps$Tape", "isName", "(II)Z"⟩, 2) := ⟨⟨by decide +kernel, by decide +kernel⟩, List.mem_of_getElem? (i := 194) (by decide +kernel), List.mem_of_getElem? (i := 459) (by decide +kernel), List.mem_of_getElem? (i := 460) (by decide +kernel)⟩
theorem lw_p24 : lw_okq (⟨"TimeGaps$Tape", "isKeyword", "(II)Z"⟩, 2) := ⟨⟨by decide +kernel, by decide +kernel⟩, List.mem_of_getElem? (i := 194) (by decide +kernel), List.mem_of_getElem? (i := 464) (by decide +kernel), List.mem_of_getElem? (i := 465) (by decide +kernel)⟩
theorem lw_p25 : lw_okq (⟨"TimeGaps$SetupReader", "eventHere", "()I"⟩, 6) := ⟨⟨by decide +kernel, by decide +kernel⟩, List.mem_of_getElem? (i := 188) (by decide +kernel), List.mem_of_getElem? (i := 477) (by decide +kernel), List.mem_of_getElem? (i := 478) (by decide +kernel)⟩
theorem lw_p26 : lw_okq (⟨"TimeGaps$Plan", "findEvent", "(LTimeGaps$Tape;II)I"⟩, 12) := ⟨⟨by decide +kernel, by decide +kernel⟩, List.mem_of_getElem? (i := 26) (by decide +kernel), List.mem_of_getElem? (i := 481) (by decide +kernel), List.mem_of_getElem? (i := 482) (by decide +kernel)⟩
theorem lw_p27 : lw_okq (⟨"TimeGaps$Plan", "isNamed", "(ILTimeGaps$Tape;II)Z"⟩, 12) := ⟨⟨by decide +kernel, by decide +kernel⟩, List.mem_of_getElem? (i := 26) (by decide +kernel), List.mem_of_getElem? (i := 485) (by decide +kernel), List.mem_of_getElem? (i := 486) (by decide +kernel)⟩
theorem lw_p28 : lw_okq (⟨"TimeGaps$Plan", "letterOf", "(II)I"⟩, 12) := ⟨⟨by decide +kernel, by decide +kernel⟩, List.mem_of_getElem? (i := 26) (by decide +kernel), List.mem_of_getElem? (i := 489) (by decide +kernel), List.mem_of_getElem? (i := 490) (by decide +kernel)⟩
theorem lw_p29 : lw_okq (⟨"TimeGaps$Plan", "addEvent", "(LTimeGaps$Tape;II)I"⟩, 12) := ⟨⟨by decide +kernel, by decide +kernel⟩, List.mem_of_getElem? (i := 26) (by decide +kernel), List.mem_of_getElem? (i := 494) (by decide +kernel), List.mem_of_getElem? (i := 495) (by decide +kernel)⟩
theorem lw_p30 : lw_okq (⟨"TimeGaps$Plan", "nameEvent", "(ILTimeGaps$Tape;II)V"⟩, 12) := ⟨⟨by decide +kernel, by decide +kernel⟩, List.mem_of_getElem? (i := 26) (by decide +kernel), List.mem_of_getElem? (i := 498) (by decide +kernel), List.mem_of_getElem? (i := 499) (by decide +kernel)⟩
theorem lw_p31 : lw_okq (⟨"TimeGaps$SetupReader", "readGap", "()Z"⟩, 6) := ⟨⟨by decide +kernel, by decide +kernel⟩, List.mem_of_getElem? (i := 188) (by decide +kernel), List.mem_of_getElem? (i := 505) (by decide +kernel), List.mem_of_getElem? (i := 506) (by decide +kernel)⟩
def lw_privs_2 : List (MethodName × Nat) := [(⟨"TimeGaps$SetupReader", "readEnd", "()Z"⟩, 6), (⟨"TimeGaps$SetupReader", "takeWord", "(Ljava/lang/String;)Z"⟩, 6), (⟨"TimeGaps$SetupReader", "isHere", "(Ljava/lang/String;)Z"⟩, 6), (⟨"TimeGaps$Tape", "spells", "(IILjava/lang/String;)Z"⟩, 2), (⟨"TimeGaps$SetupReader", "numberHere", "()I"⟩, 6), (⟨"TimeGaps$SetupReader", "takeSemicolon", "()Z"⟩, 6), (⟨"TimeGaps$SetupReader", "readEvent", "()Z"⟩, 6), (⟨"TimeGaps$Tape", "isName", "(II)Z"⟩, 2), (⟨"TimeGaps$Tape", "isKeyword", "(II)Z"⟩, 2), (⟨"TimeGaps$SetupReader", "eventHere", "()I"⟩, 6), (⟨"TimeGaps$Plan", "findEvent", "(LTimeGaps$Tape;II)I"⟩, 12), (⟨"TimeGaps$Plan", "isNamed", "(ILTimeGaps$Tape;II)Z"⟩, 12), (⟨"TimeGaps$Plan", "letterOf", "(II)I"⟩, 12), (⟨"TimeGaps$Plan", "addEvent", "(LTimeGaps$Tape;II)I"⟩, 12), (⟨"TimeGaps$Plan", "nameEvent", "(ILTimeGaps$Tape;II)V"⟩, 12), (⟨"TimeGaps$SetupReader", "readGap", "()Z"⟩, 6)]
theorem lw_r2 : ∀ q ∈ lw_privs_2, lw_okq q := List.forall_mem_cons.mpr ⟨lw_p16, List.forall_mem_cons.mpr ⟨lw_p17, List.forall_mem_cons.mpr ⟨lw_p18, List.forall_mem_cons.mpr ⟨lw_p19, List.forall_mem_cons.mpr ⟨lw_p20, List.forall_mem_cons.mpr ⟨lw_p21, List.forall_mem_cons.mpr ⟨lw_p22, List.forall_mem_cons.mpr ⟨lw_p23, List.forall_mem_cons.mpr ⟨lw_p24, List.forall_mem_cons.mpr ⟨lw_p25, List.forall_mem_cons.mpr ⟨lw_p26, List.forall_mem_cons.mpr ⟨lw_p27, List.forall_mem_cons.mpr ⟨lw_p28, List.forall_mem_cons.mpr ⟨lw_p29, List.forall_mem_cons.mpr ⟨lw_p30, List.forall_mem_cons.mpr ⟨lw_p31, fun _ h => absurd h List.not_mem_nil⟩⟩⟩⟩⟩⟩⟩⟩⟩⟩⟩⟩⟩⟩⟩⟩
theorem lw_p32 : lw_okq (⟨"TimeGaps$SetupReader", "kindHere", "()I"⟩, 6) := ⟨⟨by decide +kernel, by decide +kernel⟩, List.mem_of_getElem? (i := 188) (by decide +kernel), List.mem_of_getElem? (i := 509) (by decide +kernel), List.mem_of_getElem? (i := 510) (by decide +kernel)⟩
theorem lw_p33 : lw_okq (⟨"TimeGaps$Net", "leastRing", "(IIII)I"⟩, 7) := ⟨⟨by decide +kernel, by decide +kernel⟩, List.mem_of_getElem? (i := 122) (by decide +kernel), List.mem_of_getElem? (i := 516) (by decide +kernel), List.mem_of_getElem? (i := 517) (by decide +kernel)⟩
theorem lw_p34 : lw_okq (⟨"TimeGaps$Net", "between", "(II)I"⟩, 7) := ⟨⟨by decide +kernel, by decide +kernel⟩, List.mem_of_getElem? (i := 122) (by decide +kernel), List.mem_of_getElem? (i := 520) (by decide +kernel), List.mem_of_getElem? (i := 521) (by decide +kernel)⟩
theorem lw_p35 : lw_okq (⟨"TimeGaps$Plan", "addGap", "(IIIIZ)I"⟩, 12) := ⟨⟨by decide +kernel, by decide +kernel⟩, List.mem_of_getElem? (i := 26) (by decide +kernel), List.mem_of_getElem? (i := 527) (by decide +kernel), List.mem_of_getElem? (i := 528) (by decide +kernel)⟩
theorem lw_p36 : lw_okq (⟨"TimeGaps$Net", "addGapStep", "(IIII)V"⟩, 7) := ⟨⟨by decide +kernel, by decide +kernel⟩, List.mem_of_getElem? (i := 122) (by decide +kernel), List.mem_of_getElem? (i := 531) (by decide +kernel), List.mem_of_getElem? (i := 532) (by decide +kernel)⟩
theorem lw_p37 : lw_okq (⟨"TimeGaps$Net", "addStep", "(III)V"⟩, 7) := ⟨⟨by decide +kernel, by decide +kernel⟩, List.mem_of_getElem? (i := 122) (by decide +kernel), List.mem_of_getElem? (i := 535) (by decide +kernel), List.mem_of_getElem? (i := 536) (by decide +kernel)⟩
theorem lw_p38 : lw_okq (⟨"TimeGaps$SetupReader", "readPin", "()Z"⟩, 6) := ⟨⟨by decide +kernel, by decide +kernel⟩, List.mem_of_getElem? (i := 188) (by decide +kernel), List.mem_of_getElem? (i := 540) (by decide +kernel), List.mem_of_getElem? (i := 541) (by decide +kernel)⟩
theorem lw_p39 : lw_okq (⟨"TimeGaps$Net", "allows", "(II)Z"⟩, 7) := ⟨⟨by decide +kernel, by decide +kernel⟩, List.mem_of_getElem? (i := 122) (by decide +kernel), List.mem_of_getElem? (i := 545) (by decide +kernel), List.mem_of_getElem? (i := 546) (by decide +kernel)⟩
theorem lw_p40 : lw_okq (⟨"TimeGaps$Net", "earliest", "(I)I"⟩, 7) := ⟨⟨by decide +kernel, by decide +kernel⟩, List.mem_of_getElem? (i := 122) (by decide +kernel), List.mem_of_getElem? (i := 549) (by decide +kernel), List.mem_of_getElem? (i := 550) (by decide +kernel)⟩
theorem lw_p41 : lw_okq (⟨"TimeGaps$Net", "latest", "(I)I"⟩, 7) := ⟨⟨by decide +kernel, by decide +kernel⟩, List.mem_of_getElem? (i := 122) (by decide +kernel), List.mem_of_getElem? (i := 553) (by decide +kernel), List.mem_of_getElem? (i := 554) (by decide +kernel)⟩
theorem lw_p42 : lw_okq (⟨"TimeGaps$Net", "addPin", "(II)V"⟩, 7) := ⟨⟨by decide +kernel, by decide +kernel⟩, List.mem_of_getElem? (i := 122) (by decide +kernel), List.mem_of_getElem? (i := 557) (by decide +kernel), List.mem_of_getElem? (i := 558) (by decide +kernel)⟩
theorem lw_p43 : lw_okq (⟨"TimeGaps$SetupReader", "position", "()I"⟩, 6) := ⟨⟨by decide +kernel, by decide +kernel⟩, List.mem_of_getElem? (i := 188) (by decide +kernel), List.mem_of_getElem? (i := 561) (by decide +kernel), List.mem_of_getElem? (i := 562) (by decide +kernel)⟩
theorem lw_p44 : lw_okq (⟨"TimeGaps$Plan", "copyFrom", "(LTimeGaps$Plan;)V"⟩, 12) := ⟨⟨by decide +kernel, by decide +kernel⟩, List.mem_of_getElem? (i := 26) (by decide +kernel), List.mem_of_getElem? (i := 565) (by decide +kernel), List.mem_of_getElem? (i := 566) (by decide +kernel)⟩
theorem lw_p45 : lw_okq (⟨"TimeGaps$Log", "copyFrom", "(LTimeGaps$Log;)V"⟩, 3) := ⟨⟨by decide +kernel, by decide +kernel⟩, List.mem_of_getElem? (i := 32) (by decide +kernel), List.mem_of_getElem? (i := 572) (by decide +kernel), List.mem_of_getElem? (i := 573) (by decide +kernel)⟩
theorem lw_p46 : lw_okq (⟨"TimeGaps$Slots", "clear", "()V"⟩, 2) := ⟨⟨by decide +kernel, by decide +kernel⟩, List.mem_of_getElem? (i := 171) (by decide +kernel), List.mem_of_getElem? (i := 577) (by decide +kernel), List.mem_of_getElem? (i := 578) (by decide +kernel)⟩
theorem lw_p47 : lw_okq (⟨"TimeGaps$History", "clear", "()V"⟩, 3) := ⟨⟨by decide +kernel, by decide +kernel⟩, List.mem_of_getElem? (i := 151) (by decide +kernel), List.mem_of_getElem? (i := 581) (by decide +kernel), List.mem_of_getElem? (i := 582) (by decide +kernel)⟩
def lw_privs_3 : List (MethodName × Nat) := [(⟨"TimeGaps$SetupReader", "kindHere", "()I"⟩, 6), (⟨"TimeGaps$Net", "leastRing", "(IIII)I"⟩, 7), (⟨"TimeGaps$Net", "between", "(II)I"⟩, 7), (⟨"TimeGaps$Plan", "addGap", "(IIIIZ)I"⟩, 12), (⟨"TimeGaps$Net", "addGapStep", "(IIII)V"⟩, 7), (⟨"TimeGaps$Net", "addStep", "(III)V"⟩, 7), (⟨"TimeGaps$SetupReader", "readPin", "()Z"⟩, 6), (⟨"TimeGaps$Net", "allows", "(II)Z"⟩, 7), (⟨"TimeGaps$Net", "earliest", "(I)I"⟩, 7), (⟨"TimeGaps$Net", "latest", "(I)I"⟩, 7), (⟨"TimeGaps$Net", "addPin", "(II)V"⟩, 7), (⟨"TimeGaps$SetupReader", "position", "()I"⟩, 6), (⟨"TimeGaps$Plan", "copyFrom", "(LTimeGaps$Plan;)V"⟩, 12), (⟨"TimeGaps$Log", "copyFrom", "(LTimeGaps$Log;)V"⟩, 3), (⟨"TimeGaps$Slots", "clear", "()V"⟩, 2), (⟨"TimeGaps$History", "clear", "()V"⟩, 3)]
theorem lw_r3 : ∀ q ∈ lw_privs_3, lw_okq q := List.forall_mem_cons.mpr ⟨lw_p32, List.forall_mem_cons.mpr ⟨lw_p33, List.forall_mem_cons.mpr ⟨lw_p34, List.forall_mem_cons.mpr ⟨lw_p35, List.forall_mem_cons.mpr ⟨lw_p36, List.forall_mem_cons.mpr ⟨lw_p37, List.forall_mem_cons.mpr ⟨lw_p38, List.forall_mem_cons.mpr ⟨lw_p39, List.forall_mem_cons.mpr ⟨lw_p40, List.forall_mem_cons.mpr ⟨lw_p41, List.forall_mem_cons.mpr ⟨lw_p42, List.forall_mem_cons.mpr ⟨lw_p43, List.forall_mem_cons.mpr ⟨lw_p44, List.forall_mem_cons.mpr ⟨lw_p45, List.forall_mem_cons.mpr ⟨lw_p46, List.forall_mem_cons.mpr ⟨lw_p47, fun _ h => absurd h List.not_mem_nil⟩⟩⟩⟩⟩⟩⟩⟩⟩⟩⟩⟩⟩⟩⟩⟩
theorem lw_p48 : lw_okq (⟨"TimeGaps", "isNewNameOnTape", "()Z"⟩, 9) := ⟨⟨by decide +kernel, by decide +kernel⟩, List.mem_of_getElem? (i := 18) (by decide +kernel), List.mem_of_getElem? (i := 593) (by decide +kernel), List.mem_of_getElem? (i := 594) (by decide +kernel)⟩
theorem lw_p49 : lw_okq (⟨"TimeGaps$History", "remember", "(LTimeGaps$Plan;)V"⟩, 3) := ⟨⟨by decide +kernel, by decide +kernel⟩, List.mem_of_getElem? (i := 151) (by decide +kernel), List.mem_of_getElem? (i := 599) (by decide +kernel), List.mem_of_getElem? (i := 600) (by decide +kernel)⟩
theorem lw_p50 : lw_okq (⟨"TimeGaps", "finish", "(III)V"⟩, 9) := ⟨⟨by decide +kernel, by decide +kernel⟩, List.mem_of_getElem? (i := 18) (by decide +kernel), List.mem_of_getElem? (i := 605) (by decide +kernel), List.mem_of_getElem? (i := 606) (by decide +kernel)⟩
theorem lw_p51 : lw_okq (⟨"TimeGaps$Log", "note", "(III)V"⟩, 3) := ⟨⟨by decide +kernel, by decide +kernel⟩, List.mem_of_getElem? (i := 32) (by decide +kernel), List.mem_of_getElem? (i := 609) (by decide +kernel), List.mem_of_getElem? (i := 610) (by decide +kernel)⟩
theorem lw_p52 : lw_okq (⟨"TimeGaps", "isTellable", "(IIII)Z"⟩, 9) := ⟨⟨by decide +kernel, by decide +kernel⟩, List.mem_of_getElem? (i := 18) (by decide +kernel), List.mem_of_getElem? (i := 617) (by decide +kernel), List.mem_of_getElem? (i := 618) (by decide +kernel)⟩
theorem lw_p53 : lw_okq (⟨"TimeGaps", "areTwoEvents", "(II)Z"⟩, 9) := ⟨⟨by decide +kernel, by decide +kernel⟩, List.mem_of_getElem? (i := 18) (by decide +kernel), List.mem_of_getElem? (i := 621) (by decide +kernel), List.mem_of_getElem? (i := 622) (by decide +kernel)⟩
theorem lw_p54 : lw_okq (⟨"TimeGaps", "isEvent", "(I)Z"⟩, 9) := ⟨⟨by decide +kernel, by decide +kernel⟩, List.mem_of_getElem? (i := 18) (by decide +kernel), List.mem_of_getElem? (i := 625) (by decide +kernel), List.mem_of_getElem? (i := 626) (by decide +kernel)⟩
theorem lw_p55 : lw_okq (⟨"TimeGaps", "isGap", "(I)Z"⟩, 9) := ⟨⟨by decide +kernel, by decide +kernel⟩, List.mem_of_getElem? (i := 18) (by decide +kernel), List.mem_of_getElem? (i := 641) (by decide +kernel), List.mem_of_getElem? (i := 642) (by decide +kernel)⟩
theorem lw_p56 : lw_okq (⟨"TimeGaps$Plan", "removeGap", "(I)V"⟩, 12) := ⟨⟨by decide +kernel, by decide +kernel⟩, List.mem_of_getElem? (i := 26) (by decide +kernel), List.mem_of_getElem? (i := 645) (by decide +kernel), List.mem_of_getElem? (i := 646) (by decide +kernel)⟩
theorem lw_p57 : lw_okq (⟨"TimeGaps", "ringOfGap", "(II)I"⟩, 9) := ⟨⟨by decide +kernel, by decide +kernel⟩, List.mem_of_getElem? (i := 18) (by decide +kernel), List.mem_of_getElem? (i := 653) (by decide +kernel), List.mem_of_getElem? (i := 654) (by decide +kernel)⟩
theorem lw_p58 : lw_okq (⟨"TimeGaps", "isTime", "(I)Z"⟩, 9) := ⟨⟨by decide +kernel, by decide +kernel⟩, List.mem_of_getElem? (i := 18) (by decide +kernel), List.mem_of_getElem? (i := 668) (by decide +kernel), List.mem_of_getElem? (i := 669) (by decide +kernel)⟩
theorem lw_p59 : lw_okq (⟨"TimeGaps", "isPinnable", "(I)Z"⟩, 9) := ⟨⟨by decide +kernel, by decide +kernel⟩, List.mem_of_getElem? (i := 18) (by decide +kernel), List.mem_of_getElem? (i := 672) (by decide +kernel), List.mem_of_getElem? (i := 673) (by decide +kernel)⟩
theorem lw_p60 : lw_okq (⟨"TimeGaps$Plan", "countPinned", "()I"⟩, 12) := ⟨⟨by decide +kernel, by decide +kernel⟩, List.mem_of_getElem? (i := 26) (by decide +kernel), List.mem_of_getElem? (i := 678) (by decide +kernel), List.mem_of_getElem? (i := 679) (by decide +kernel)⟩
theorem lw_p61 : lw_okq (⟨"TimeGaps$Net", "greatestEarliest", "()I"⟩, 7) := ⟨⟨by decide +kernel, by decide +kernel⟩, List.mem_of_getElem? (i := 122) (by decide +kernel), List.mem_of_getElem? (i := 692) (by decide +kernel), List.mem_of_getElem? (i := 693) (by decide +kernel)⟩
theorem lw_p62 : lw_okq (⟨"TimeGaps", "tryWithout", "(I)V"⟩, 9) := ⟨⟨by decide +kernel, by decide +kernel⟩, List.mem_of_getElem? (i := 18) (by decide +kernel), List.mem_of_getElem? (i := 708) (by decide +kernel), List.mem_of_getElem? (i := 709) (by decide +kernel)⟩
theorem lw_p63 : lw_okq (⟨"TimeGaps", "isTight", "(I)Z"⟩, 9) := ⟨⟨by decide +kernel, by decide +kernel⟩, List.mem_of_getElem? (i := 18) (by decide +kernel), List.mem_of_getElem? (i := 712) (by decide +kernel), List.mem_of_getElem? (i := 713) (by decide +kernel)⟩
def lw_privs_4 : List (MethodName × Nat) := [(⟨"TimeGaps", "isNewNameOnTape", "()Z"⟩, 9), (⟨"TimeGaps$History", "remember", "(LTimeGaps$Plan;)V"⟩, 3), (⟨"TimeGaps", "finish", "(III)V"⟩, 9), (⟨"TimeGaps$Log", "note", "(III)V"⟩, 3), (⟨"TimeGaps", "isTellable", "(IIII)Z"⟩, 9), (⟨"TimeGaps", "areTwoEvents", "(II)Z"⟩, 9), (⟨"TimeGaps", "isEvent", "(I)Z"⟩, 9), (⟨"TimeGaps", "isGap", "(I)Z"⟩, 9), (⟨"TimeGaps$Plan", "removeGap", "(I)V"⟩, 12), (⟨"TimeGaps", "ringOfGap", "(II)I"⟩, 9), (⟨"TimeGaps", "isTime", "(I)Z"⟩, 9), (⟨"TimeGaps", "isPinnable", "(I)Z"⟩, 9), (⟨"TimeGaps$Plan", "countPinned", "()I"⟩, 12), (⟨"TimeGaps$Net", "greatestEarliest", "()I"⟩, 7), (⟨"TimeGaps", "tryWithout", "(I)V"⟩, 9), (⟨"TimeGaps", "isTight", "(I)Z"⟩, 9)]
theorem lw_r4 : ∀ q ∈ lw_privs_4, lw_okq q := List.forall_mem_cons.mpr ⟨lw_p48, List.forall_mem_cons.mpr ⟨lw_p49, List.forall_mem_cons.mpr ⟨lw_p50, List.forall_mem_cons.mpr ⟨lw_p51, List.forall_mem_cons.mpr ⟨lw_p52, List.forall_mem_cons.mpr ⟨lw_p53, List.forall_mem_cons.mpr ⟨lw_p54, List.forall_mem_cons.mpr ⟨lw_p55, List.forall_mem_cons.mpr ⟨lw_p56, List.forall_mem_cons.mpr ⟨lw_p57, List.forall_mem_cons.mpr ⟨lw_p58, List.forall_mem_cons.mpr ⟨lw_p59, List.forall_mem_cons.mpr ⟨lw_p60, List.forall_mem_cons.mpr ⟨lw_p61, List.forall_mem_cons.mpr ⟨lw_p62, List.forall_mem_cons.mpr ⟨lw_p63, fun _ h => absurd h List.not_mem_nil⟩⟩⟩⟩⟩⟩⟩⟩⟩⟩⟩⟩⟩⟩⟩⟩
theorem lw_p64 : lw_okq (⟨"TimeGaps", "lengthOf", "(I)I"⟩, 9) := ⟨⟨by decide +kernel, by decide +kernel⟩, List.mem_of_getElem? (i := 18) (by decide +kernel), List.mem_of_getElem? (i := 716) (by decide +kernel), List.mem_of_getElem? (i := 717) (by decide +kernel)⟩
theorem lw_p65 : lw_okq (⟨"TimeGaps", "boundOf", "(I)I"⟩, 9) := ⟨⟨by decide +kernel, by decide +kernel⟩, List.mem_of_getElem? (i := 18) (by decide +kernel), List.mem_of_getElem? (i := 721) (by decide +kernel), List.mem_of_getElem? (i := 722) (by decide +kernel)⟩
theorem lw_p66 : lw_okq (⟨"TimeGaps", "beginOf", "(I)I"⟩, 9) := ⟨⟨by decide +kernel, by decide +kernel⟩, List.mem_of_getElem? (i := 18) (by decide +kernel), List.mem_of_getElem? (i := 725) (by decide +kernel), List.mem_of_getElem? (i := 726) (by decide +kernel)⟩
theorem lw_p67 : lw_okq (⟨"TimeGaps", "finishOf", "(I)I"⟩, 9) := ⟨⟨by decide +kernel, by decide +kernel⟩, List.mem_of_getElem? (i := 18) (by decide +kernel), List.mem_of_getElem? (i := 730) (by decide +kernel), List.mem_of_getElem? (i := 731) (by decide +kernel)⟩
theorem lw_p68 : lw_okq (⟨"TimeGaps$Net", "copyBounds", "(LTimeGaps$Net;)V"⟩, 7) := ⟨⟨by decide +kernel, by decide +kernel⟩, List.mem_of_getElem? (i := 122) (by decide +kernel), List.mem_of_getElem? (i := 736) (by decide +kernel), List.mem_of_getElem? (i := 737) (by decide +kernel)⟩
theorem lw_p69 : lw_okq (⟨"TimeGaps", "isLoose", "(I)Z"⟩, 9) := ⟨⟨by decide +kernel, by decide +kernel⟩, List.mem_of_getElem? (i := 18) (by decide +kernel), List.mem_of_getElem? (i := 745) (by decide +kernel), List.mem_of_getElem? (i := 746) (by decide +kernel)⟩
theorem lw_p70 : lw_okq (⟨"TimeGaps", "tightNumber", "(I)I"⟩, 9) := ⟨⟨by decide +kernel, by decide +kernel⟩, List.mem_of_getElem? (i := 18) (by decide +kernel), List.mem_of_getElem? (i := 749) (by decide +kernel), List.mem_of_getElem? (i := 750) (by decide +kernel)⟩
theorem lw_p71 : lw_okq (⟨"TimeGaps$Net", "room", "()I"⟩, 7) := ⟨⟨by decide +kernel, by decide +kernel⟩, List.mem_of_getElem? (i := 122) (by decide +kernel), List.mem_of_getElem? (i := 753) (by decide +kernel), List.mem_of_getElem? (i := 754) (by decide +kernel)⟩
theorem lw_p72 : lw_okq (⟨"TimeGaps", "firstNeedless", "(I)I"⟩, 9) := ⟨⟨by decide +kernel, by decide +kernel⟩, List.mem_of_getElem? (i := 18) (by decide +kernel), List.mem_of_getElem? (i := 761) (by decide +kernel), List.mem_of_getElem? (i := 762) (by decide +kernel)⟩
theorem lw_p73 : lw_okq (⟨"TimeGaps", "isNeeded", "(I)Z"⟩, 9) := ⟨⟨by decide +kernel, by decide +kernel⟩, List.mem_of_getElem? (i := 18) (by decide +kernel), List.mem_of_getElem? (i := 765) (by decide +kernel), List.mem_of_getElem? (i := 766) (by decide +kernel)⟩
theorem lw_p74 : lw_okq (⟨"TimeGaps$History", "bringBack", "(LTimeGaps$Plan;)V"⟩, 3) := ⟨⟨by decide +kernel, by decide +kernel⟩, List.mem_of_getElem? (i := 151) (by decide +kernel), List.mem_of_getElem? (i := 789) (by decide +kernel), List.mem_of_getElem? (i := 790) (by decide +kernel)⟩
theorem lw_p75 : lw_okq (⟨"TimeGaps$Plan", "countOn", "()I"⟩, 12) := ⟨⟨by decide +kernel, by decide +kernel⟩, List.mem_of_getElem? (i := 26) (by decide +kernel), List.mem_of_getElem? (i := 797) (by decide +kernel), List.mem_of_getElem? (i := 798) (by decide +kernel)⟩
theorem lw_p76 : lw_okq (⟨"TimeGaps", "countTight", "()I"⟩, 9) := ⟨⟨by decide +kernel, by decide +kernel⟩, List.mem_of_getElem? (i := 18) (by decide +kernel), List.mem_of_getElem? (i := 801) (by decide +kernel), List.mem_of_getElem? (i := 802) (by decide +kernel)⟩
theorem lw_p77 : lw_okq (⟨"TimeGaps", "countNeeded", "()I"⟩, 9) := ⟨⟨by decide +kernel, by decide +kernel⟩, List.mem_of_getElem? (i := 18) (by decide +kernel), List.mem_of_getElem? (i := 805) (by decide +kernel), List.mem_of_getElem? (i := 806) (by decide +kernel)⟩
theorem lw_p78 : lw_okq (⟨"TimeGaps$Net", "countSettled", "()I"⟩, 7) := ⟨⟨by decide +kernel, by decide +kernel⟩, List.mem_of_getElem? (i := 122) (by decide +kernel), List.mem_of_getElem? (i := 809) (by decide +kernel), List.mem_of_getElem? (i := 810) (by decide +kernel)⟩
theorem lw_p79 : lw_okq (⟨"TimeGaps$Net", "possibleTimes", "(I)I"⟩, 7) := ⟨⟨by decide +kernel, by decide +kernel⟩, List.mem_of_getElem? (i := 122) (by decide +kernel), List.mem_of_getElem? (i := 813) (by decide +kernel), List.mem_of_getElem? (i := 814) (by decide +kernel)⟩
def lw_privs_5 : List (MethodName × Nat) := [(⟨"TimeGaps", "lengthOf", "(I)I"⟩, 9), (⟨"TimeGaps", "boundOf", "(I)I"⟩, 9), (⟨"TimeGaps", "beginOf", "(I)I"⟩, 9), (⟨"TimeGaps", "finishOf", "(I)I"⟩, 9), (⟨"TimeGaps$Net", "copyBounds", "(LTimeGaps$Net;)V"⟩, 7), (⟨"TimeGaps", "isLoose", "(I)Z"⟩, 9), (⟨"TimeGaps", "tightNumber", "(I)I"⟩, 9), (⟨"TimeGaps$Net", "room", "()I"⟩, 7), (⟨"TimeGaps", "firstNeedless", "(I)I"⟩, 9), (⟨"TimeGaps", "isNeeded", "(I)Z"⟩, 9), (⟨"TimeGaps$History", "bringBack", "(LTimeGaps$Plan;)V"⟩, 3), (⟨"TimeGaps$Plan", "countOn", "()I"⟩, 12), (⟨"TimeGaps", "countTight", "()I"⟩, 9), (⟨"TimeGaps", "countNeeded", "()I"⟩, 9), (⟨"TimeGaps$Net", "countSettled", "()I"⟩, 7), (⟨"TimeGaps$Net", "possibleTimes", "(I)I"⟩, 7)]
theorem lw_r5 : ∀ q ∈ lw_privs_5, lw_okq q := List.forall_mem_cons.mpr ⟨lw_p64, List.forall_mem_cons.mpr ⟨lw_p65, List.forall_mem_cons.mpr ⟨lw_p66, List.forall_mem_cons.mpr ⟨lw_p67, List.forall_mem_cons.mpr ⟨lw_p68, List.forall_mem_cons.mpr ⟨lw_p69, List.forall_mem_cons.mpr ⟨lw_p70, List.forall_mem_cons.mpr ⟨lw_p71, List.forall_mem_cons.mpr ⟨lw_p72, List.forall_mem_cons.mpr ⟨lw_p73, List.forall_mem_cons.mpr ⟨lw_p74, List.forall_mem_cons.mpr ⟨lw_p75, List.forall_mem_cons.mpr ⟨lw_p76, List.forall_mem_cons.mpr ⟨lw_p77, List.forall_mem_cons.mpr ⟨lw_p78, List.forall_mem_cons.mpr ⟨lw_p79, fun _ h => absurd h List.not_mem_nil⟩⟩⟩⟩⟩⟩⟩⟩⟩⟩⟩⟩⟩⟩⟩⟩
theorem lw_p80 : lw_okq (⟨"TimeGaps$Plan", "countOnOf", "(I)I"⟩, 12) := ⟨⟨by decide +kernel, by decide +kernel⟩, List.mem_of_getElem? (i := 26) (by decide +kernel), List.mem_of_getElem? (i := 833) (by decide +kernel), List.mem_of_getElem? (i := 834) (by decide +kernel)⟩
theorem lw_p81 : lw_okq (⟨"TimeGaps$Plan", "hasEvent", "(II)Z"⟩, 12) := ⟨⟨by decide +kernel, by decide +kernel⟩, List.mem_of_getElem? (i := 26) (by decide +kernel), List.mem_of_getElem? (i := 837) (by decide +kernel), List.mem_of_getElem? (i := 838) (by decide +kernel)⟩
theorem lw_p82 : lw_okq (⟨"TimeGaps$Net", "stepOfWay", "(III)I"⟩, 7) := ⟨⟨by decide +kernel, by decide +kernel⟩, List.mem_of_getElem? (i := 122) (by decide +kernel), List.mem_of_getElem? (i := 850) (by decide +kernel), List.mem_of_getElem? (i := 851) (by decide +kernel)⟩
theorem lw_p83 : lw_okq (⟨"TimeGaps$Net", "firstStep", "(II)I"⟩, 7) := ⟨⟨by decide +kernel, by decide +kernel⟩, List.mem_of_getElem? (i := 122) (by decide +kernel), List.mem_of_getElem? (i := 854) (by decide +kernel), List.mem_of_getElem? (i := 855) (by decide +kernel)⟩
theorem lw_p84 : lw_okq (⟨"TimeGaps$Net", "stepsBetween", "(II)I"⟩, 7) := ⟨⟨by decide +kernel, by decide +kernel⟩, List.mem_of_getElem? (i := 122) (by decide +kernel), List.mem_of_getElem? (i := 862) (by decide +kernel), List.mem_of_getElem? (i := 863) (by decide +kernel)⟩
theorem lw_p85 : lw_okq (⟨"TimeGaps", "relationOf", "(II)I"⟩, 9) := ⟨⟨by decide +kernel, by decide +kernel⟩, List.mem_of_getElem? (i := 18) (by decide +kernel), List.mem_of_getElem? (i := 873) (by decide +kernel), List.mem_of_getElem? (i := 874) (by decide +kernel)⟩
theorem lw_p86 : lw_okq (⟨"TimeGaps$Net", "placeByEarliest", "(I)I"⟩, 7) := ⟨⟨by decide +kernel, by decide +kernel⟩, List.mem_of_getElem? (i := 122) (by decide +kernel), List.mem_of_getElem? (i := 893) (by decide +kernel), List.mem_of_getElem? (i := 894) (by decide +kernel)⟩
theorem lw_p87 : lw_okq (⟨"TimeGaps$Net", "placeByLatest", "(I)I"⟩, 7) := ⟨⟨by decide +kernel, by decide +kernel⟩, List.mem_of_getElem? (i := 122) (by decide +kernel), List.mem_of_getElem? (i := 906) (by decide +kernel), List.mem_of_getElem? (i := 907) (by decide +kernel)⟩
theorem lw_p88 : lw_okq (⟨"TimeGaps$Net", "oneStepDenies", "(IIII)Z"⟩, 7) := ⟨⟨by decide +kernel, by decide +kernel⟩, List.mem_of_getElem? (i := 122) (by decide +kernel), List.mem_of_getElem? (i := 926) (by decide +kernel), List.mem_of_getElem? (i := 927) (by decide +kernel)⟩
theorem lw_p89 : lw_okq (⟨"TimeGaps", "stepOfRing", "(IIII)I"⟩, 9) := ⟨⟨by decide +kernel, by decide +kernel⟩, List.mem_of_getElem? (i := 18) (by decide +kernel), List.mem_of_getElem? (i := 930) (by decide +kernel), List.mem_of_getElem? (i := 931) (by decide +kernel)⟩
theorem lw_p90 : lw_okq (⟨"TimeGaps", "tightestNumber", "(III)I"⟩, 9) := ⟨⟨by decide +kernel, by decide +kernel⟩, List.mem_of_getElem? (i := 18) (by decide +kernel), List.mem_of_getElem? (i := 946) (by decide +kernel), List.mem_of_getElem? (i := 947) (by decide +kernel)⟩
theorem lw_p91 : lw_okq (⟨"TimeGaps", "changeOnTrial", "(I)I"⟩, 9) := ⟨⟨by decide +kernel, by decide +kernel⟩, List.mem_of_getElem? (i := 18) (by decide +kernel), List.mem_of_getElem? (i := 976) (by decide +kernel), List.mem_of_getElem? (i := 977) (by decide +kernel)⟩
theorem lw_p92 : lw_okq (⟨"TimeGaps$Net", "countOtherBounds", "(LTimeGaps$Net;)I"⟩, 7) := ⟨⟨by decide +kernel, by decide +kernel⟩, List.mem_of_getElem? (i := 122) (by decide +kernel), List.mem_of_getElem? (i := 980) (by decide +kernel), List.mem_of_getElem? (i := 981) (by decide +kernel)⟩
theorem lw_p93 : lw_okq (⟨"TimeGaps$Net", "countOtherTimes", "(LTimeGaps$Net;)I"⟩, 7) := ⟨⟨by decide +kernel, by decide +kernel⟩, List.mem_of_getElem? (i := 122) (by decide +kernel), List.mem_of_getElem? (i := 984) (by decide +kernel), List.mem_of_getElem? (i := 985) (by decide +kernel)⟩
theorem lw_p94 : lw_okq (⟨"TimeGaps$Log", "part", "(II)I"⟩, 3) := ⟨⟨by decide +kernel, by decide +kernel⟩, List.mem_of_getElem? (i := 32) (by decide +kernel), List.mem_of_getElem? (i := 1013) (by decide +kernel), List.mem_of_getElem? (i := 1014) (by decide +kernel)⟩
theorem lw_p95 : lw_okq (⟨"TimeGaps$Text", "writeList", "(LTimeGaps$Plan;LTimeGaps$Net;)V"⟩, 2) := ⟨⟨by decide +kernel, by decide +kernel⟩, List.mem_of_getElem? (i := 233) (by decide +kernel), List.mem_of_getElem? (i := 1029) (by decide +kernel), List.mem_of_getElem? (i := 1030) (by decide +kernel)⟩
def lw_privs_6 : List (MethodName × Nat) := [(⟨"TimeGaps$Plan", "countOnOf", "(I)I"⟩, 12), (⟨"TimeGaps$Plan", "hasEvent", "(II)Z"⟩, 12), (⟨"TimeGaps$Net", "stepOfWay", "(III)I"⟩, 7), (⟨"TimeGaps$Net", "firstStep", "(II)I"⟩, 7), (⟨"TimeGaps$Net", "stepsBetween", "(II)I"⟩, 7), (⟨"TimeGaps", "relationOf", "(II)I"⟩, 9), (⟨"TimeGaps$Net", "placeByEarliest", "(I)I"⟩, 7), (⟨"TimeGaps$Net", "placeByLatest", "(I)I"⟩, 7), (⟨"TimeGaps$Net", "oneStepDenies", "(IIII)Z"⟩, 7), (⟨"TimeGaps", "stepOfRing", "(IIII)I"⟩, 9), (⟨"TimeGaps", "tightestNumber", "(III)I"⟩, 9), (⟨"TimeGaps", "changeOnTrial", "(I)I"⟩, 9), (⟨"TimeGaps$Net", "countOtherBounds", "(LTimeGaps$Net;)I"⟩, 7), (⟨"TimeGaps$Net", "countOtherTimes", "(LTimeGaps$Net;)I"⟩, 7), (⟨"TimeGaps$Log", "part", "(II)I"⟩, 3), (⟨"TimeGaps$Text", "writeList", "(LTimeGaps$Plan;LTimeGaps$Net;)V"⟩, 2)]
theorem lw_r6 : ∀ q ∈ lw_privs_6, lw_okq q := List.forall_mem_cons.mpr ⟨lw_p80, List.forall_mem_cons.mpr ⟨lw_p81, List.forall_mem_cons.mpr ⟨lw_p82, List.forall_mem_cons.mpr ⟨lw_p83, List.forall_mem_cons.mpr ⟨lw_p84, List.forall_mem_cons.mpr ⟨lw_p85, List.forall_mem_cons.mpr ⟨lw_p86, List.forall_mem_cons.mpr ⟨lw_p87, List.forall_mem_cons.mpr ⟨lw_p88, List.forall_mem_cons.mpr ⟨lw_p89, List.forall_mem_cons.mpr ⟨lw_p90, List.forall_mem_cons.mpr ⟨lw_p91, List.forall_mem_cons.mpr ⟨lw_p92, List.forall_mem_cons.mpr ⟨lw_p93, List.forall_mem_cons.mpr ⟨lw_p94, List.forall_mem_cons.mpr ⟨lw_p95, fun _ h => absurd h List.not_mem_nil⟩⟩⟩⟩⟩⟩⟩⟩⟩⟩⟩⟩⟩⟩⟩⟩
theorem lw_p96 : lw_okq (⟨"TimeGaps$Text", "putName", "(LTimeGaps$Plan;I)V"⟩, 2) := ⟨⟨by decide +kernel, by decide +kernel⟩, List.mem_of_getElem? (i := 233) (by decide +kernel), List.mem_of_getElem? (i := 1033) (by decide +kernel), List.mem_of_getElem? (i := 1034) (by decide +kernel)⟩
theorem lw_p97 : lw_okq (⟨"TimeGaps$Text", "put", "(I)V"⟩, 2) := ⟨⟨by decide +kernel, by decide +kernel⟩, List.mem_of_getElem? (i := 233) (by decide +kernel), List.mem_of_getElem? (i := 1038) (by decide +kernel), List.mem_of_getElem? (i := 1039) (by decide +kernel)⟩
theorem lw_p98 : lw_okq (⟨"TimeGaps$Text", "putNumber", "(I)V"⟩, 2) := ⟨⟨by decide +kernel, by decide +kernel⟩, List.mem_of_getElem? (i := 233) (by decide +kernel), List.mem_of_getElem? (i := 1043) (by decide +kernel), List.mem_of_getElem? (i := 1044) (by decide +kernel)⟩
theorem lw_p99 : lw_okq (⟨"TimeGaps$Text", "byteAt", "(I)I"⟩, 2) := ⟨⟨by decide +kernel, by decide +kernel⟩, List.mem_of_getElem? (i := 233) (by decide +kernel), List.mem_of_getElem? (i := 1053) (by decide +kernel), List.mem_of_getElem? (i := 1054) (by decide +kernel)⟩
theorem lw_p100 : lw_okq (⟨"TimeGaps$Text", "writeSetup", "(LTimeGaps$Plan;)V"⟩, 2) := ⟨⟨by decide +kernel, by decide +kernel⟩, List.mem_of_getElem? (i := 233) (by decide +kernel), List.mem_of_getElem? (i := 1061) (by decide +kernel), List.mem_of_getElem? (i := 1062) (by decide +kernel)⟩
theorem lw_p101 : lw_okq (⟨"TimeGaps$Text", "putWord", "(Ljava/lang/String;)V"⟩, 2) := ⟨⟨by decide +kernel, by decide +kernel⟩, List.mem_of_getElem? (i := 233) (by decide +kernel), List.mem_of_getElem? (i := 1066) (by decide +kernel), List.mem_of_getElem? (i := 1067) (by decide +kernel)⟩
theorem lw_p102 : lw_okq (⟨"TimeGaps$Text", "putGap", "(LTimeGaps$Plan;I)V"⟩, 2) := ⟨⟨by decide +kernel, by decide +kernel⟩, List.mem_of_getElem? (i := 233) (by decide +kernel), List.mem_of_getElem? (i := 1073) (by decide +kernel), List.mem_of_getElem? (i := 1074) (by decide +kernel)⟩
theorem lw_p103 : lw_okq (⟨"TimeGapsModel", "begins", "()V"⟩, 29) := ⟨⟨by decide +kernel, by decide +kernel⟩, List.mem_of_getElem? (i := 1086) (by decide +kernel), List.mem_of_getElem? (i := 1196) (by decide +kernel), List.mem_of_getElem? (i := 1197) (by decide +kernel)⟩
theorem lw_p104 : lw_okq (⟨"TimeGapsModel", "done", "(I)I"⟩, 29) := ⟨⟨by decide +kernel, by decide +kernel⟩, List.mem_of_getElem? (i := 1086) (by decide +kernel), List.mem_of_getElem? (i := 1200) (by decide +kernel), List.mem_of_getElem? (i := 1201) (by decide +kernel)⟩
theorem lw_p105 : lw_okq (⟨"TimeGapsModel", "areTwo", "(II)Z"⟩, 29) := ⟨⟨by decide +kernel, by decide +kernel⟩, List.mem_of_getElem? (i := 1086) (by decide +kernel), List.mem_of_getElem? (i := 1212) (by decide +kernel), List.mem_of_getElem? (i := 1213) (by decide +kernel)⟩
theorem lw_p106 : lw_okq (⟨"TimeGapsModel", "isEvent", "(I)Z"⟩, 29) := ⟨⟨by decide +kernel, by decide +kernel⟩, List.mem_of_getElem? (i := 1086) (by decide +kernel), List.mem_of_getElem? (i := 1216) (by decide +kernel), List.mem_of_getElem? (i := 1217) (by decide +kernel)⟩
theorem lw_p107 : lw_okq (⟨"TimeGapsModel", "comes", "(IIIII)I"⟩, 29) := ⟨⟨by decide +kernel, by decide +kernel⟩, List.mem_of_getElem? (i := 1086) (by decide +kernel), List.mem_of_getElem? (i := 1223) (by decide +kernel), List.mem_of_getElem? (i := 1224) (by decide +kernel)⟩
theorem lw_p108 : lw_okq (⟨"TimeGapsModel", "puts", "(III)V"⟩, 29) := ⟨⟨by decide +kernel, by decide +kernel⟩, List.mem_of_getElem? (i := 1086) (by decide +kernel), List.mem_of_getElem? (i := 1227) (by decide +kernel), List.mem_of_getElem? (i := 1228) (by decide +kernel)⟩
theorem lw_p109 : lw_okq (⟨"TimeGapsModel", "lays", "()Z"⟩, 29) := ⟨⟨by decide +kernel, by decide +kernel⟩, List.mem_of_getElem? (i := 1086) (by decide +kernel), List.mem_of_getElem? (i := 1231) (by decide +kernel), List.mem_of_getElem? (i := 1232) (by decide +kernel)⟩
theorem lw_p110 : lw_okq (⟨"TimeGapsModel", "laysSteps", "()V"⟩, 29) := ⟨⟨by decide +kernel, by decide +kernel⟩, List.mem_of_getElem? (i := 1086) (by decide +kernel), List.mem_of_getElem? (i := 1235) (by decide +kernel), List.mem_of_getElem? (i := 1236) (by decide +kernel)⟩
theorem lw_p111 : lw_okq (⟨"TimeGapsModel", "isOn", "(I)Z"⟩, 29) := ⟨⟨by decide +kernel, by decide +kernel⟩, List.mem_of_getElem? (i := 1086) (by decide +kernel), List.mem_of_getElem? (i := 1239) (by decide +kernel), List.mem_of_getElem? (i := 1240) (by decide +kernel)⟩
def lw_privs_7 : List (MethodName × Nat) := [(⟨"TimeGaps$Text", "putName", "(LTimeGaps$Plan;I)V"⟩, 2), (⟨"TimeGaps$Text", "put", "(I)V"⟩, 2), (⟨"TimeGaps$Text", "putNumber", "(I)V"⟩, 2), (⟨"TimeGaps$Text", "byteAt", "(I)I"⟩, 2), (⟨"TimeGaps$Text", "writeSetup", "(LTimeGaps$Plan;)V"⟩, 2), (⟨"TimeGaps$Text", "putWord", "(Ljava/lang/String;)V"⟩, 2), (⟨"TimeGaps$Text", "putGap", "(LTimeGaps$Plan;I)V"⟩, 2), (⟨"TimeGapsModel", "begins", "()V"⟩, 29), (⟨"TimeGapsModel", "done", "(I)I"⟩, 29), (⟨"TimeGapsModel", "areTwo", "(II)Z"⟩, 29), (⟨"TimeGapsModel", "isEvent", "(I)Z"⟩, 29), (⟨"TimeGapsModel", "comes", "(IIIII)I"⟩, 29), (⟨"TimeGapsModel", "puts", "(III)V"⟩, 29), (⟨"TimeGapsModel", "lays", "()Z"⟩, 29), (⟨"TimeGapsModel", "laysSteps", "()V"⟩, 29), (⟨"TimeGapsModel", "isOn", "(I)Z"⟩, 29)]
theorem lw_r7 : ∀ q ∈ lw_privs_7, lw_okq q := List.forall_mem_cons.mpr ⟨lw_p96, List.forall_mem_cons.mpr ⟨lw_p97, List.forall_mem_cons.mpr ⟨lw_p98, List.forall_mem_cons.mpr ⟨lw_p99, List.forall_mem_cons.mpr ⟨lw_p100, List.forall_mem_cons.mpr ⟨lw_p101, List.forall_mem_cons.mpr ⟨lw_p102, List.forall_mem_cons.mpr ⟨lw_p103, List.forall_mem_cons.mpr ⟨lw_p104, List.forall_mem_cons.mpr ⟨lw_p105, List.forall_mem_cons.mpr ⟨lw_p106, List.forall_mem_cons.mpr ⟨lw_p107, List.forall_mem_cons.mpr ⟨lw_p108, List.forall_mem_cons.mpr ⟨lw_p109, List.forall_mem_cons.mpr ⟨lw_p110, List.forall_mem_cons.mpr ⟨lw_p111, fun _ h => absurd h List.not_mem_nil⟩⟩⟩⟩⟩⟩⟩⟩⟩⟩⟩⟩⟩⟩⟩⟩
theorem lw_p112 : lw_okq (⟨"TimeGapsModel", "of", "(II)I"⟩, 29) := ⟨⟨by decide +kernel, by decide +kernel⟩, List.mem_of_getElem? (i := 1086) (by decide +kernel), List.mem_of_getElem? (i := 1243) (by decide +kernel), List.mem_of_getElem? (i := 1244) (by decide +kernel)⟩
theorem lw_p113 : lw_okq (⟨"TimeGapsModel", "fromOf", "(I)I"⟩, 29) := ⟨⟨by decide +kernel, by decide +kernel⟩, List.mem_of_getElem? (i := 1086) (by decide +kernel), List.mem_of_getElem? (i := 1247) (by decide +kernel), List.mem_of_getElem? (i := 1248) (by decide +kernel)⟩
theorem lw_p114 : lw_okq (⟨"TimeGapsModel", "toOf", "(I)I"⟩, 29) := ⟨⟨by decide +kernel, by decide +kernel⟩, List.mem_of_getElem? (i := 1086) (by decide +kernel), List.mem_of_getElem? (i := 1251) (by decide +kernel), List.mem_of_getElem? (i := 1252) (by decide +kernel)⟩
theorem lw_p115 : lw_okq (⟨"TimeGapsModel", "lengthOf", "(I)I"⟩, 29) := ⟨⟨by decide +kernel, by decide +kernel⟩, List.mem_of_getElem? (i := 1086) (by decide +kernel), List.mem_of_getElem? (i := 1255) (by decide +kernel), List.mem_of_getElem? (i := 1256) (by decide +kernel)⟩
theorem lw_p116 : lw_okq (⟨"TimeGapsModel", "laysStep", "(IIII)V"⟩, 29) := ⟨⟨by decide +kernel, by decide +kernel⟩, List.mem_of_getElem? (i := 1086) (by decide +kernel), List.mem_of_getElem? (i := 1259) (by decide +kernel), List.mem_of_getElem? (i := 1260) (by decide +kernel)⟩
theorem lw_p117 : lw_okq (⟨"TimeGapsModel", "isPinned", "(I)Z"⟩, 29) := ⟨⟨by decide +kernel, by decide +kernel⟩, List.mem_of_getElem? (i := 1086) (by decide +kernel), List.mem_of_getElem? (i := 1263) (by decide +kernel), List.mem_of_getElem? (i := 1264) (by decide +kernel)⟩
theorem lw_p118 : lw_okq (⟨"TimeGapsModel", "boundOf", "(II)I"⟩, 29) := ⟨⟨by decide +kernel, by decide +kernel⟩, List.mem_of_getElem? (i := 1086) (by decide +kernel), List.mem_of_getElem? (i := 1271) (by decide +kernel), List.mem_of_getElem? (i := 1272) (by decide +kernel)⟩
theorem lw_p119 : lw_okq (⟨"TimeGapsModel", "fails", "(I)I"⟩, 29) := ⟨⟨by decide +kernel, by decide +kernel⟩, List.mem_of_getElem? (i := 1086) (by decide +kernel), List.mem_of_getElem? (i := 1276) (by decide +kernel), List.mem_of_getElem? (i := 1277) (by decide +kernel)⟩
theorem lw_p120 : lw_okq (⟨"TimeGapsModel", "logs", "(III)V"⟩, 29) := ⟨⟨by decide +kernel, by decide +kernel⟩, List.mem_of_getElem? (i := 1086) (by decide +kernel), List.mem_of_getElem? (i := 1280) (by decide +kernel), List.mem_of_getElem? (i := 1281) (by decide +kernel)⟩
theorem lw_p121 : lw_okq (⟨"TimeGapsModel", "isGap", "(I)Z"⟩, 29) := ⟨⟨by decide +kernel, by decide +kernel⟩, List.mem_of_getElem? (i := 1086) (by decide +kernel), List.mem_of_getElem? (i := 1288) (by decide +kernel), List.mem_of_getElem? (i := 1289) (by decide +kernel)⟩
theorem lw_p122 : lw_okq (⟨"TimeGapsModel", "drops", "(I)V"⟩, 29) := ⟨⟨by decide +kernel, by decide +kernel⟩, List.mem_of_getElem? (i := 1086) (by decide +kernel), List.mem_of_getElem? (i := 1292) (by decide +kernel), List.mem_of_getElem? (i := 1293) (by decide +kernel)⟩
theorem lw_p123 : lw_okq (⟨"TimeGapsModel", "doneIf", "(IIII)I"⟩, 29) := ⟨⟨by decide +kernel, by decide +kernel⟩, List.mem_of_getElem? (i := 1086) (by decide +kernel), List.mem_of_getElem? (i := 1300) (by decide +kernel), List.mem_of_getElem? (i := 1301) (by decide +kernel)⟩
theorem lw_p124 : lw_okq (⟨"TimeGapsModel", "pinned", "()I"⟩, 29) := ⟨⟨by decide +kernel, by decide +kernel⟩, List.mem_of_getElem? (i := 1086) (by decide +kernel), List.mem_of_getElem? (i := 1312) (by decide +kernel), List.mem_of_getElem? (i := 1313) (by decide +kernel)⟩
theorem lw_p125 : lw_okq (⟨"TimeGapsModel", "isTight", "(I)Z"⟩, 29) := ⟨⟨by decide +kernel, by decide +kernel⟩, List.mem_of_getElem? (i := 1086) (by decide +kernel), List.mem_of_getElem? (i := 1332) (by decide +kernel), List.mem_of_getElem? (i := 1333) (by decide +kernel)⟩
theorem lw_p126 : lw_okq (⟨"TimeGapsModel", "allRoom", "()I"⟩, 29) := ⟨⟨by decide +kernel, by decide +kernel⟩, List.mem_of_getElem? (i := 1086) (by decide +kernel), List.mem_of_getElem? (i := 1336) (by decide +kernel), List.mem_of_getElem? (i := 1337) (by decide +kernel)⟩
theorem lw_p127 : lw_okq (⟨"TimeGapsModel", "roomOf", "(I)I"⟩, 29) := ⟨⟨by decide +kernel, by decide +kernel⟩, List.mem_of_getElem? (i := 1086) (by decide +kernel), List.mem_of_getElem? (i := 1340) (by decide +kernel), List.mem_of_getElem? (i := 1341) (by decide +kernel)⟩
def lw_privs_8 : List (MethodName × Nat) := [(⟨"TimeGapsModel", "of", "(II)I"⟩, 29), (⟨"TimeGapsModel", "fromOf", "(I)I"⟩, 29), (⟨"TimeGapsModel", "toOf", "(I)I"⟩, 29), (⟨"TimeGapsModel", "lengthOf", "(I)I"⟩, 29), (⟨"TimeGapsModel", "laysStep", "(IIII)V"⟩, 29), (⟨"TimeGapsModel", "isPinned", "(I)Z"⟩, 29), (⟨"TimeGapsModel", "boundOf", "(II)I"⟩, 29), (⟨"TimeGapsModel", "fails", "(I)I"⟩, 29), (⟨"TimeGapsModel", "logs", "(III)V"⟩, 29), (⟨"TimeGapsModel", "isGap", "(I)Z"⟩, 29), (⟨"TimeGapsModel", "drops", "(I)V"⟩, 29), (⟨"TimeGapsModel", "doneIf", "(IIII)I"⟩, 29), (⟨"TimeGapsModel", "pinned", "()I"⟩, 29), (⟨"TimeGapsModel", "isTight", "(I)Z"⟩, 29), (⟨"TimeGapsModel", "allRoom", "()I"⟩, 29), (⟨"TimeGapsModel", "roomOf", "(I)I"⟩, 29)]
theorem lw_r8 : ∀ q ∈ lw_privs_8, lw_okq q := List.forall_mem_cons.mpr ⟨lw_p112, List.forall_mem_cons.mpr ⟨lw_p113, List.forall_mem_cons.mpr ⟨lw_p114, List.forall_mem_cons.mpr ⟨lw_p115, List.forall_mem_cons.mpr ⟨lw_p116, List.forall_mem_cons.mpr ⟨lw_p117, List.forall_mem_cons.mpr ⟨lw_p118, List.forall_mem_cons.mpr ⟨lw_p119, List.forall_mem_cons.mpr ⟨lw_p120, List.forall_mem_cons.mpr ⟨lw_p121, List.forall_mem_cons.mpr ⟨lw_p122, List.forall_mem_cons.mpr ⟨lw_p123, List.forall_mem_cons.mpr ⟨lw_p124, List.forall_mem_cons.mpr ⟨lw_p125, List.forall_mem_cons.mpr ⟨lw_p126, List.forall_mem_cons.mpr ⟨lw_p127, fun _ h => absurd h List.not_mem_nil⟩⟩⟩⟩⟩⟩⟩⟩⟩⟩⟩⟩⟩⟩⟩⟩
theorem lw_p128 : lw_okq (⟨"TimeGapsModel", "latest", "(I)I"⟩, 29) := ⟨⟨by decide +kernel, by decide +kernel⟩, List.mem_of_getElem? (i := 1086) (by decide +kernel), List.mem_of_getElem? (i := 1344) (by decide +kernel), List.mem_of_getElem? (i := 1345) (by decide +kernel)⟩
theorem lw_p129 : lw_okq (⟨"TimeGapsModel", "earliest", "(I)I"⟩, 29) := ⟨⟨by decide +kernel, by decide +kernel⟩, List.mem_of_getElem? (i := 1086) (by decide +kernel), List.mem_of_getElem? (i := 1348) (by decide +kernel), List.mem_of_getElem? (i := 1349) (by decide +kernel)⟩
theorem lw_p130 : lw_okq (⟨"TimeGapsModel", "firstNeedless", "()I"⟩, 29) := ⟨⟨by decide +kernel, by decide +kernel⟩, List.mem_of_getElem? (i := 1086) (by decide +kernel), List.mem_of_getElem? (i := 1356) (by decide +kernel), List.mem_of_getElem? (i := 1357) (by decide +kernel)⟩
theorem lw_p131 : lw_okq (⟨"TimeGapsModel", "isNeeded", "(I)Z"⟩, 29) := ⟨⟨by decide +kernel, by decide +kernel⟩, List.mem_of_getElem? (i := 1086) (by decide +kernel), List.mem_of_getElem? (i := 1360) (by decide +kernel), List.mem_of_getElem? (i := 1361) (by decide +kernel)⟩
theorem lw_p132 : lw_okq (⟨"TimeGapsModel", "nextToken", "()V"⟩, 29) := ⟨⟨by decide +kernel, by decide +kernel⟩, List.mem_of_getElem? (i := 1086) (by decide +kernel), List.mem_of_getElem? (i := 1372) (by decide +kernel), List.mem_of_getElem? (i := 1373) (by decide +kernel)⟩
theorem lw_p133 : lw_okq (⟨"TimeGapsModel", "isByte", "(II)Z"⟩, 29) := ⟨⟨by decide +kernel, by decide +kernel⟩, List.mem_of_getElem? (i := 1086) (by decide +kernel), List.mem_of_getElem? (i := 1376) (by decide +kernel), List.mem_of_getElem? (i := 1377) (by decide +kernel)⟩
theorem lw_p134 : lw_okq (⟨"TimeGapsModel", "takesLetters", "()V"⟩, 29) := ⟨⟨by decide +kernel, by decide +kernel⟩, List.mem_of_getElem? (i := 1086) (by decide +kernel), List.mem_of_getElem? (i := 1380) (by decide +kernel), List.mem_of_getElem? (i := 1381) (by decide +kernel)⟩
theorem lw_p135 : lw_okq (⟨"TimeGapsModel", "takesDigits", "()V"⟩, 29) := ⟨⟨by decide +kernel, by decide +kernel⟩, List.mem_of_getElem? (i := 1086) (by decide +kernel), List.mem_of_getElem? (i := 1384) (by decide +kernel), List.mem_of_getElem? (i := 1385) (by decide +kernel)⟩
theorem lw_p136 : lw_okq (⟨"TimeGapsModel", "isKey", "(I)Z"⟩, 29) := ⟨⟨by decide +kernel, by decide +kernel⟩, List.mem_of_getElem? (i := 1086) (by decide +kernel), List.mem_of_getElem? (i := 1388) (by decide +kernel), List.mem_of_getElem? (i := 1389) (by decide +kernel)⟩
theorem lw_p137 : lw_okq (⟨"TimeGapsModel", "takes", "(Z)V"⟩, 29) := ⟨⟨by decide +kernel, by decide +kernel⟩, List.mem_of_getElem? (i := 1086) (by decide +kernel), List.mem_of_getElem? (i := 1392) (by decide +kernel), List.mem_of_getElem? (i := 1393) (by decide +kernel)⟩
theorem lw_p138 : lw_okq (⟨"TimeGapsModel", "numberIn", "(II)I"⟩, 29) := ⟨⟨by decide +kernel, by decide +kernel⟩, List.mem_of_getElem? (i := 1086) (by decide +kernel), List.mem_of_getElem? (i := 1396) (by decide +kernel), List.mem_of_getElem? (i := 1397) (by decide +kernel)⟩
theorem lw_p139 : lw_okq (⟨"TimeGapsModel", "readEvent", "()V"⟩, 29) := ⟨⟨by decide +kernel, by decide +kernel⟩, List.mem_of_getElem? (i := 1086) (by decide +kernel), List.mem_of_getElem? (i := 1401) (by decide +kernel), List.mem_of_getElem? (i := 1402) (by decide +kernel)⟩
theorem lw_p140 : lw_okq (⟨"TimeGapsModel", "named", "(I)I"⟩, 29) := ⟨⟨by decide +kernel, by decide +kernel⟩, List.mem_of_getElem? (i := 1086) (by decide +kernel), List.mem_of_getElem? (i := 1411) (by decide +kernel), List.mem_of_getElem? (i := 1412) (by decide +kernel)⟩
theorem lw_p141 : lw_okq (⟨"TimeGapsModel", "opens", "(I)V"⟩, 29) := ⟨⟨by decide +kernel, by decide +kernel⟩, List.mem_of_getElem? (i := 1086) (by decide +kernel), List.mem_of_getElem? (i := 1415) (by decide +kernel), List.mem_of_getElem? (i := 1416) (by decide +kernel)⟩
theorem lw_p142 : lw_okq (⟨"TimeGapsModel", "readGap", "()V"⟩, 29) := ⟨⟨by decide +kernel, by decide +kernel⟩, List.mem_of_getElem? (i := 1086) (by decide +kernel), List.mem_of_getElem? (i := 1419) (by decide +kernel), List.mem_of_getElem? (i := 1420) (by decide +kernel)⟩
theorem lw_p143 : lw_okq (⟨"TimeGapsModel", "readEventName", "(I)I"⟩, 29) := ⟨⟨by decide +kernel, by decide +kernel⟩, List.mem_of_getElem? (i := 1086) (by decide +kernel), List.mem_of_getElem? (i := 1423) (by decide +kernel), List.mem_of_getElem? (i := 1424) (by decide +kernel)⟩
def lw_privs_9 : List (MethodName × Nat) := [(⟨"TimeGapsModel", "latest", "(I)I"⟩, 29), (⟨"TimeGapsModel", "earliest", "(I)I"⟩, 29), (⟨"TimeGapsModel", "firstNeedless", "()I"⟩, 29), (⟨"TimeGapsModel", "isNeeded", "(I)Z"⟩, 29), (⟨"TimeGapsModel", "nextToken", "()V"⟩, 29), (⟨"TimeGapsModel", "isByte", "(II)Z"⟩, 29), (⟨"TimeGapsModel", "takesLetters", "()V"⟩, 29), (⟨"TimeGapsModel", "takesDigits", "()V"⟩, 29), (⟨"TimeGapsModel", "isKey", "(I)Z"⟩, 29), (⟨"TimeGapsModel", "takes", "(Z)V"⟩, 29), (⟨"TimeGapsModel", "numberIn", "(II)I"⟩, 29), (⟨"TimeGapsModel", "readEvent", "()V"⟩, 29), (⟨"TimeGapsModel", "named", "(I)I"⟩, 29), (⟨"TimeGapsModel", "opens", "(I)V"⟩, 29), (⟨"TimeGapsModel", "readGap", "()V"⟩, 29), (⟨"TimeGapsModel", "readEventName", "(I)I"⟩, 29)]
theorem lw_r9 : ∀ q ∈ lw_privs_9, lw_okq q := List.forall_mem_cons.mpr ⟨lw_p128, List.forall_mem_cons.mpr ⟨lw_p129, List.forall_mem_cons.mpr ⟨lw_p130, List.forall_mem_cons.mpr ⟨lw_p131, List.forall_mem_cons.mpr ⟨lw_p132, List.forall_mem_cons.mpr ⟨lw_p133, List.forall_mem_cons.mpr ⟨lw_p134, List.forall_mem_cons.mpr ⟨lw_p135, List.forall_mem_cons.mpr ⟨lw_p136, List.forall_mem_cons.mpr ⟨lw_p137, List.forall_mem_cons.mpr ⟨lw_p138, List.forall_mem_cons.mpr ⟨lw_p139, List.forall_mem_cons.mpr ⟨lw_p140, List.forall_mem_cons.mpr ⟨lw_p141, List.forall_mem_cons.mpr ⟨lw_p142, List.forall_mem_cons.mpr ⟨lw_p143, fun _ h => absurd h List.not_mem_nil⟩⟩⟩⟩⟩⟩⟩⟩⟩⟩⟩⟩⟩⟩⟩⟩
theorem lw_p144 : lw_okq (⟨"TimeGapsModel", "readPin", "()V"⟩, 29) := ⟨⟨by decide +kernel, by decide +kernel⟩, List.mem_of_getElem? (i := 1086) (by decide +kernel), List.mem_of_getElem? (i := 1429) (by decide +kernel), List.mem_of_getElem? (i := 1430) (by decide +kernel)⟩
theorem lw_p145 : lw_okq (⟨"TimeGapsModel", "tapes", "(I)V"⟩, 29) := ⟨⟨by decide +kernel, by decide +kernel⟩, List.mem_of_getElem? (i := 1086) (by decide +kernel), List.mem_of_getElem? (i := 1441) (by decide +kernel), List.mem_of_getElem? (i := 1442) (by decide +kernel)⟩
theorem lw_p146 : lw_okq (⟨"TimeGapsModel", "taped", "()I"⟩, 29) := ⟨⟨by decide +kernel, by decide +kernel⟩, List.mem_of_getElem? (i := 1086) (by decide +kernel), List.mem_of_getElem? (i := 1453) (by decide +kernel), List.mem_of_getElem? (i := 1454) (by decide +kernel)⟩
theorem lw_p147 : lw_okq (⟨"TimeGapsModel", "onGaps", "()I"⟩, 29) := ⟨⟨by decide +kernel, by decide +kernel⟩, List.mem_of_getElem? (i := 1086) (by decide +kernel), List.mem_of_getElem? (i := 1465) (by decide +kernel), List.mem_of_getElem? (i := 1466) (by decide +kernel)⟩
theorem lw_p148 : lw_okq (⟨"TimeGapsModel", "tightGaps", "()I"⟩, 29) := ⟨⟨by decide +kernel, by decide +kernel⟩, List.mem_of_getElem? (i := 1086) (by decide +kernel), List.mem_of_getElem? (i := 1469) (by decide +kernel), List.mem_of_getElem? (i := 1470) (by decide +kernel)⟩
theorem lw_p149 : lw_okq (⟨"TimeGapsModel", "neededGaps", "(I)I"⟩, 29) := ⟨⟨by decide +kernel, by decide +kernel⟩, List.mem_of_getElem? (i := 1086) (by decide +kernel), List.mem_of_getElem? (i := 1473) (by decide +kernel), List.mem_of_getElem? (i := 1474) (by decide +kernel)⟩
theorem lw_p150 : lw_okq (⟨"TimeGapsModel", "fixedEvents", "()I"⟩, 29) := ⟨⟨by decide +kernel, by decide +kernel⟩, List.mem_of_getElem? (i := 1086) (by decide +kernel), List.mem_of_getElem? (i := 1477) (by decide +kernel), List.mem_of_getElem? (i := 1478) (by decide +kernel)⟩
theorem lw_p151 : lw_okq (⟨"TimeGapsModel", "greatestEarliest", "()I"⟩, 29) := ⟨⟨by decide +kernel, by decide +kernel⟩, List.mem_of_getElem? (i := 1086) (by decide +kernel), List.mem_of_getElem? (i := 1481) (by decide +kernel), List.mem_of_getElem? (i := 1482) (by decide +kernel)⟩
theorem lw_p152 : lw_okq (⟨"TimeGapsModel", "gapsOf", "(I)I"⟩, 29) := ⟨⟨by decide +kernel, by decide +kernel⟩, List.mem_of_getElem? (i := 1086) (by decide +kernel), List.mem_of_getElem? (i := 1503) (by decide +kernel), List.mem_of_getElem? (i := 1504) (by decide +kernel)⟩
theorem lw_p153 : lw_okq (⟨"TimeGapsModel", "laysWay", "(II)I"⟩, 29) := ⟨⟨by decide +kernel, by decide +kernel⟩, List.mem_of_getElem? (i := 1086) (by decide +kernel), List.mem_of_getElem? (i := 1516) (by decide +kernel), List.mem_of_getElem? (i := 1517) (by decide +kernel)⟩
theorem lw_p154 : lw_okq (⟨"TimeGapsModel", "laysSums", "(I)V"⟩, 29) := ⟨⟨by decide +kernel, by decide +kernel⟩, List.mem_of_getElem? (i := 1086) (by decide +kernel), List.mem_of_getElem? (i := 1520) (by decide +kernel), List.mem_of_getElem? (i := 1521) (by decide +kernel)⟩
theorem lw_p155 : lw_okq (⟨"TimeGapsModel", "firstStep", "(III)I"⟩, 29) := ⟨⟨by decide +kernel, by decide +kernel⟩, List.mem_of_getElem? (i := 1086) (by decide +kernel), List.mem_of_getElem? (i := 1524) (by decide +kernel), List.mem_of_getElem? (i := 1525) (by decide +kernel)⟩
theorem lw_p156 : lw_okq (⟨"TimeGapsModel", "relationOf", "(II)I"⟩, 29) := ⟨⟨by decide +kernel, by decide +kernel⟩, List.mem_of_getElem? (i := 1086) (by decide +kernel), List.mem_of_getElem? (i := 1536) (by decide +kernel), List.mem_of_getElem? (i := 1537) (by decide +kernel)⟩
theorem lw_p157 : lw_okq (⟨"TimeGapsModel", "placed", "(IZ)I"⟩, 29) := ⟨⟨by decide +kernel, by decide +kernel⟩, List.mem_of_getElem? (i := 1086) (by decide +kernel), List.mem_of_getElem? (i := 1556) (by decide +kernel), List.mem_of_getElem? (i := 1557) (by decide +kernel)⟩
theorem lw_p158 : lw_okq (⟨"TimeGapsModel", "timeOf", "(IZ)I"⟩, 29) := ⟨⟨by decide +kernel, by decide +kernel⟩, List.mem_of_getElem? (i := 1086) (by decide +kernel), List.mem_of_getElem? (i := 1560) (by decide +kernel), List.mem_of_getElem? (i := 1561) (by decide +kernel)⟩
theorem lw_p159 : lw_okq (⟨"TimeGapsModel", "laysAside", "(IIII)V"⟩, 29) := ⟨⟨by decide +kernel, by decide +kernel⟩, List.mem_of_getElem? (i := 1086) (by decide +kernel), List.mem_of_getElem? (i := 1588) (by decide +kernel), List.mem_of_getElem? (i := 1589) (by decide +kernel)⟩
def lw_privs_10 : List (MethodName × Nat) := [(⟨"TimeGapsModel", "readPin", "()V"⟩, 29), (⟨"TimeGapsModel", "tapes", "(I)V"⟩, 29), (⟨"TimeGapsModel", "taped", "()I"⟩, 29), (⟨"TimeGapsModel", "onGaps", "()I"⟩, 29), (⟨"TimeGapsModel", "tightGaps", "()I"⟩, 29), (⟨"TimeGapsModel", "neededGaps", "(I)I"⟩, 29), (⟨"TimeGapsModel", "fixedEvents", "()I"⟩, 29), (⟨"TimeGapsModel", "greatestEarliest", "()I"⟩, 29), (⟨"TimeGapsModel", "gapsOf", "(I)I"⟩, 29), (⟨"TimeGapsModel", "laysWay", "(II)I"⟩, 29), (⟨"TimeGapsModel", "laysSums", "(I)V"⟩, 29), (⟨"TimeGapsModel", "firstStep", "(III)I"⟩, 29), (⟨"TimeGapsModel", "relationOf", "(II)I"⟩, 29), (⟨"TimeGapsModel", "placed", "(IZ)I"⟩, 29), (⟨"TimeGapsModel", "timeOf", "(IZ)I"⟩, 29), (⟨"TimeGapsModel", "laysAside", "(IIII)V"⟩, 29)]
theorem lw_r10 : ∀ q ∈ lw_privs_10, lw_okq q := List.forall_mem_cons.mpr ⟨lw_p144, List.forall_mem_cons.mpr ⟨lw_p145, List.forall_mem_cons.mpr ⟨lw_p146, List.forall_mem_cons.mpr ⟨lw_p147, List.forall_mem_cons.mpr ⟨lw_p148, List.forall_mem_cons.mpr ⟨lw_p149, List.forall_mem_cons.mpr ⟨lw_p150, List.forall_mem_cons.mpr ⟨lw_p151, List.forall_mem_cons.mpr ⟨lw_p152, List.forall_mem_cons.mpr ⟨lw_p153, List.forall_mem_cons.mpr ⟨lw_p154, List.forall_mem_cons.mpr ⟨lw_p155, List.forall_mem_cons.mpr ⟨lw_p156, List.forall_mem_cons.mpr ⟨lw_p157, List.forall_mem_cons.mpr ⟨lw_p158, List.forall_mem_cons.mpr ⟨lw_p159, fun _ h => absurd h List.not_mem_nil⟩⟩⟩⟩⟩⟩⟩⟩⟩⟩⟩⟩⟩⟩⟩⟩
theorem lw_p160 : lw_okq (⟨"TimeGapsModel", "leastRing", "()I"⟩, 29) := ⟨⟨by decide +kernel, by decide +kernel⟩, List.mem_of_getElem? (i := 1086) (by decide +kernel), List.mem_of_getElem? (i := 1592) (by decide +kernel), List.mem_of_getElem? (i := 1593) (by decide +kernel)⟩
theorem lw_p161 : lw_okq (⟨"TimeGapsModel", "isShortRing", "()Z"⟩, 29) := ⟨⟨by decide +kernel, by decide +kernel⟩, List.mem_of_getElem? (i := 1086) (by decide +kernel), List.mem_of_getElem? (i := 1596) (by decide +kernel), List.mem_of_getElem? (i := 1597) (by decide +kernel)⟩
theorem lw_p162 : lw_okq (⟨"TimeGapsModel", "tightestOf", "(III)I"⟩, 29) := ⟨⟨by decide +kernel, by decide +kernel⟩, List.mem_of_getElem? (i := 1086) (by decide +kernel), List.mem_of_getElem? (i := 1612) (by decide +kernel), List.mem_of_getElem? (i := 1613) (by decide +kernel)⟩
theorem lw_p163 : lw_okq (⟨"TimeGapsModel", "keepsBounds", "()V"⟩, 29) := ⟨⟨by decide +kernel, by decide +kernel⟩, List.mem_of_getElem? (i := 1086) (by decide +kernel), List.mem_of_getElem? (i := 1632) (by decide +kernel), List.mem_of_getElem? (i := 1633) (by decide +kernel)⟩
theorem lw_p164 : lw_okq (⟨"TimeGapsModel", "otherBounds", "()I"⟩, 29) := ⟨⟨by decide +kernel, by decide +kernel⟩, List.mem_of_getElem? (i := 1086) (by decide +kernel), List.mem_of_getElem? (i := 1636) (by decide +kernel), List.mem_of_getElem? (i := 1637) (by decide +kernel)⟩
theorem lw_p165 : lw_okq (⟨"TimeGapsModel", "otherTimes", "()I"⟩, 29) := ⟨⟨by decide +kernel, by decide +kernel⟩, List.mem_of_getElem? (i := 1086) (by decide +kernel), List.mem_of_getElem? (i := 1640) (by decide +kernel), List.mem_of_getElem? (i := 1641) (by decide +kernel)⟩
theorem lw_p166 : lw_okq (⟨"TimeGapsModel", "tellsThen", "(I)I"⟩, 29) := ⟨⟨by decide +kernel, by decide +kernel⟩, List.mem_of_getElem? (i := 1086) (by decide +kernel), List.mem_of_getElem? (i := 1648) (by decide +kernel), List.mem_of_getElem? (i := 1649) (by decide +kernel)⟩
theorem lw_p167 : lw_okq (⟨"TimeGapsModel", "writesList", "()V"⟩, 29) := ⟨⟨by decide +kernel, by decide +kernel⟩, List.mem_of_getElem? (i := 1086) (by decide +kernel), List.mem_of_getElem? (i := 1680) (by decide +kernel), List.mem_of_getElem? (i := 1681) (by decide +kernel)⟩
theorem lw_p168 : lw_okq (⟨"TimeGapsModel", "saysKey", "(II)V"⟩, 29) := ⟨⟨by decide +kernel, by decide +kernel⟩, List.mem_of_getElem? (i := 1086) (by decide +kernel), List.mem_of_getElem? (i := 1684) (by decide +kernel), List.mem_of_getElem? (i := 1685) (by decide +kernel)⟩
theorem lw_p169 : lw_okq (⟨"TimeGapsModel", "saysWord", "(I)V"⟩, 29) := ⟨⟨by decide +kernel, by decide +kernel⟩, List.mem_of_getElem? (i := 1086) (by decide +kernel), List.mem_of_getElem? (i := 1688) (by decide +kernel), List.mem_of_getElem? (i := 1689) (by decide +kernel)⟩
theorem lw_p170 : lw_okq (⟨"TimeGapsModel", "says", "(I)V"⟩, 29) := ⟨⟨by decide +kernel, by decide +kernel⟩, List.mem_of_getElem? (i := 1086) (by decide +kernel), List.mem_of_getElem? (i := 1692) (by decide +kernel), List.mem_of_getElem? (i := 1693) (by decide +kernel)⟩
theorem lw_p171 : lw_okq (⟨"TimeGapsModel", "saysNumber", "(I)V"⟩, 29) := ⟨⟨by decide +kernel, by decide +kernel⟩, List.mem_of_getElem? (i := 1086) (by decide +kernel), List.mem_of_getElem? (i := 1696) (by decide +kernel), List.mem_of_getElem? (i := 1697) (by decide +kernel)⟩
theorem lw_p172 : lw_okq (⟨"TimeGapsModel", "toldByte", "(I)I"⟩, 29) := ⟨⟨by decide +kernel, by decide +kernel⟩, List.mem_of_getElem? (i := 1086) (by decide +kernel), List.mem_of_getElem? (i := 1704) (by decide +kernel), List.mem_of_getElem? (i := 1705) (by decide +kernel)⟩
theorem lw_p173 : lw_okq (⟨"TimeGapsModel", "writesSetup", "()V"⟩, 29) := ⟨⟨by decide +kernel, by decide +kernel⟩, List.mem_of_getElem? (i := 1086) (by decide +kernel), List.mem_of_getElem? (i := 1712) (by decide +kernel), List.mem_of_getElem? (i := 1713) (by decide +kernel)⟩
theorem lw_p174 : lw_okq (⟨"TimeGapsModel", "saysEvent", "(I)V"⟩, 29) := ⟨⟨by decide +kernel, by decide +kernel⟩, List.mem_of_getElem? (i := 1086) (by decide +kernel), List.mem_of_getElem? (i := 1716) (by decide +kernel), List.mem_of_getElem? (i := 1717) (by decide +kernel)⟩
theorem lw_p175 : lw_okq (⟨"TimeGapsModel", "writesGap", "(I)V"⟩, 29) := ⟨⟨by decide +kernel, by decide +kernel⟩, List.mem_of_getElem? (i := 1086) (by decide +kernel), List.mem_of_getElem? (i := 1720) (by decide +kernel), List.mem_of_getElem? (i := 1721) (by decide +kernel)⟩
def lw_privs_11 : List (MethodName × Nat) := [(⟨"TimeGapsModel", "leastRing", "()I"⟩, 29), (⟨"TimeGapsModel", "isShortRing", "()Z"⟩, 29), (⟨"TimeGapsModel", "tightestOf", "(III)I"⟩, 29), (⟨"TimeGapsModel", "keepsBounds", "()V"⟩, 29), (⟨"TimeGapsModel", "otherBounds", "()I"⟩, 29), (⟨"TimeGapsModel", "otherTimes", "()I"⟩, 29), (⟨"TimeGapsModel", "tellsThen", "(I)I"⟩, 29), (⟨"TimeGapsModel", "writesList", "()V"⟩, 29), (⟨"TimeGapsModel", "saysKey", "(II)V"⟩, 29), (⟨"TimeGapsModel", "saysWord", "(I)V"⟩, 29), (⟨"TimeGapsModel", "says", "(I)V"⟩, 29), (⟨"TimeGapsModel", "saysNumber", "(I)V"⟩, 29), (⟨"TimeGapsModel", "toldByte", "(I)I"⟩, 29), (⟨"TimeGapsModel", "writesSetup", "()V"⟩, 29), (⟨"TimeGapsModel", "saysEvent", "(I)V"⟩, 29), (⟨"TimeGapsModel", "writesGap", "(I)V"⟩, 29)]
theorem lw_r11 : ∀ q ∈ lw_privs_11, lw_okq q := List.forall_mem_cons.mpr ⟨lw_p160, List.forall_mem_cons.mpr ⟨lw_p161, List.forall_mem_cons.mpr ⟨lw_p162, List.forall_mem_cons.mpr ⟨lw_p163, List.forall_mem_cons.mpr ⟨lw_p164, List.forall_mem_cons.mpr ⟨lw_p165, List.forall_mem_cons.mpr ⟨lw_p166, List.forall_mem_cons.mpr ⟨lw_p167, List.forall_mem_cons.mpr ⟨lw_p168, List.forall_mem_cons.mpr ⟨lw_p169, List.forall_mem_cons.mpr ⟨lw_p170, List.forall_mem_cons.mpr ⟨lw_p171, List.forall_mem_cons.mpr ⟨lw_p172, List.forall_mem_cons.mpr ⟨lw_p173, List.forall_mem_cons.mpr ⟨lw_p174, List.forall_mem_cons.mpr ⟨lw_p175, fun _ h => absurd h List.not_mem_nil⟩⟩⟩⟩⟩⟩⟩⟩⟩⟩⟩⟩⟩⟩⟩⟩
def lw_privs : List (MethodName × Nat) := lw_privs_1 ++ (lw_privs_2 ++ (lw_privs_3 ++ (lw_privs_4 ++ (lw_privs_5 ++ (lw_privs_6 ++ (lw_privs_7 ++ (lw_privs_8 ++ (lw_privs_9 ++ (lw_privs_10 ++ (lw_privs_11))))))))))
def lw_tbl : List Cond := k2_sels lw_privs ++ tables_1
theorem lw_privs_ok : ∀ q ∈ lw_privs, lw_okq q := by
  show ∀ q ∈ lw_privs_1 ++ (lw_privs_2 ++ (lw_privs_3 ++ (lw_privs_4 ++ (lw_privs_5 ++ (lw_privs_6 ++ (lw_privs_7 ++ (lw_privs_8 ++ (lw_privs_9 ++ (lw_privs_10 ++ (lw_privs_11)))))))))), lw_okq q
  exact List.forall_mem_append.mpr ⟨lw_r1, List.forall_mem_append.mpr ⟨lw_r2, List.forall_mem_append.mpr ⟨lw_r3, List.forall_mem_append.mpr ⟨lw_r4, List.forall_mem_append.mpr ⟨lw_r5, List.forall_mem_append.mpr ⟨lw_r6, List.forall_mem_append.mpr ⟨lw_r7, List.forall_mem_append.mpr ⟨lw_r8, List.forall_mem_append.mpr ⟨lw_r9, List.forall_mem_append.mpr ⟨lw_r10, lw_r11⟩⟩⟩⟩⟩⟩⟩⟩⟩⟩
/-- the streams that the claim lets the run draw from -/
abbrev lw_cs : List Choice := [Jvm.Choice.named "NaN.bits"]
theorem lw_bits : nanBits ∈ lw_cs := by first | decide | exact List.mem_cons_self | simp [lw_cs, nanBits]
-- ===== end of PART A; then your names; then what follows =====
def RX0 : String := "TimeGaps$History"
def TX0 : u_T := fun k => match k with
  | 0 => ("TimeGaps$History", "plans", "[LTimeGaps$Plan;", true)
  | 1 => ("TimeGaps$History", "oldest", "I", false)
  | _ => ("TimeGaps$History", "count", "I", false)
def tyX0 : Nat → FieldType := fun k => match k with
  | 0 => .array (.object "TimeGaps$Plan")
  | 1 => .int
  | _ => .int
abbrev wsX00 : List Cond := u_ws RX0 TX0 3
theorem nmX0 : ∀ a, a < 3 → ∀ b, b < 3 → a ≠ b → (TX0 a).2.1 ≠ (TX0 b).2.1 := by decide +kernel
theorem tyX0_ok : ∀ k, k < 3 → parseFieldDescriptor (TX0 k).2.2.1 = some (tyX0 k) := by decide +kernel
abbrev cX0_init : ByteArray := prog_2_method_1_code
def yX0_init : MethodName := ⟨RX0, "<init>", "()V"⟩
abbrev cX0_clear : ByteArray := prog_2_method_2_code
def yX0_clear : MethodName := ⟨RX0, "clear", "()V"⟩
abbrev cX0_remember : ByteArray := prog_2_method_3_code
def yX0_remember : MethodName := ⟨RX0, "remember", "(LTimeGaps$Plan;)V"⟩
abbrev cX0_bringBack : ByteArray := prog_2_method_4_code
def yX0_bringBack : MethodName := ⟨RX0, "bringBack", "(LTimeGaps$Plan;)V"⟩
def RX1 : String := "TimeGaps$Log"
def TX1 : u_T := fun k => match k with
  | 0 => ("TimeGaps$Log", "parts", "[I", true)
  | 1 => ("TimeGaps$Log", "oldest", "I", false)
  | _ => ("TimeGaps$Log", "count", "I", false)
def tyX1 : Nat → FieldType := fun k => match k with
  | 0 => .array .int
  | 1 => .int
  | _ => .int
abbrev wsX10 : List Cond := u_ws RX1 TX1 3
theorem nmX1 : ∀ a, a < 3 → ∀ b, b < 3 → a ≠ b → (TX1 a).2.1 ≠ (TX1 b).2.1 := by decide +kernel
theorem tyX1_ok : ∀ k, k < 3 → parseFieldDescriptor (TX1 k).2.2.1 = some (tyX1 k) := by decide +kernel
abbrev cX1_init : ByteArray := prog_3_method_1_code
def yX1_init : MethodName := ⟨RX1, "<init>", "()V"⟩
abbrev cX1_clear : ByteArray := prog_3_method_2_code
def yX1_clear : MethodName := ⟨RX1, "clear", "()V"⟩
abbrev cX1_copyFrom : ByteArray := prog_3_method_3_code
def yX1_copyFrom : MethodName := ⟨RX1, "copyFrom", "(LTimeGaps$Log;)V"⟩
abbrev cX1_note : ByteArray := prog_3_method_4_code
def yX1_note : MethodName := ⟨RX1, "note", "(III)V"⟩
abbrev cX1_part : ByteArray := prog_3_method_5_code
def yX1_part : MethodName := ⟨RX1, "part", "(II)I"⟩
def RX2 : String := "TimeGaps$Net"
def TX2 : u_T := fun k => match k with
  | 0 => ("TimeGaps$Net", "begins", "[I", true)
  | 1 => ("TimeGaps$Net", "finishes", "[I", true)
  | 2 => ("TimeGaps$Net", "lengths", "[I", true)
  | 3 => ("TimeGaps$Net", "codes", "[I", true)
  | 4 => ("TimeGaps$Net", "weights", "[I", true)
  | 5 => ("TimeGaps$Net", "steps", "I", false)
  | _ => ("TimeGaps$Net", "events", "I", false)
def tyX2 : Nat → FieldType := fun k => match k with
  | 0 => .array .int
  | 1 => .array .int
  | 2 => .array .int
  | 3 => .array .int
  | 4 => .array .int
  | 5 => .int
  | _ => .int
abbrev wsX20 : List Cond := u_ws RX2 TX2 7
theorem nmX2 : ∀ a, a < 7 → ∀ b, b < 7 → a ≠ b → (TX2 a).2.1 ≠ (TX2 b).2.1 := by decide +kernel
theorem tyX2_ok : ∀ k, k < 7 → parseFieldDescriptor (TX2 k).2.2.1 = some (tyX2 k) := by decide +kernel
abbrev cX2_init : ByteArray := prog_4_method_1_code
def yX2_init : MethodName := ⟨RX2, "<init>", "()V"⟩
abbrev cX2_build : ByteArray := prog_4_method_2_code
def yX2_build : MethodName := ⟨RX2, "build", "(LTimeGaps$Plan;I)V"⟩
abbrev cX2_collectSteps : ByteArray := prog_4_method_3_code
def yX2_collectSteps : MethodName := ⟨RX2, "collectSteps", "(LTimeGaps$Plan;I)V"⟩
abbrev cX2_collect : ByteArray := prog_4_method_4_code
def yX2_collect : MethodName := ⟨RX2, "collect", "(IIII)V"⟩
abbrev cX2_startWeights : ByteArray := prog_4_method_5_code
def yX2_startWeights : MethodName := ⟨RX2, "startWeights", "()V"⟩
abbrev cX2_closeWeights : ByteArray := prog_4_method_6_code
def yX2_closeWeights : MethodName := ⟨RX2, "closeWeights", "()V"⟩
abbrev cX2_copyBounds : ByteArray := prog_4_method_7_code
def yX2_copyBounds : MethodName := ⟨RX2, "copyBounds", "(LTimeGaps$Net;)V"⟩
abbrev cX2_addStep : ByteArray := prog_4_method_8_code
def yX2_addStep : MethodName := ⟨RX2, "addStep", "(III)V"⟩
abbrev cX2_addGapStep : ByteArray := prog_4_method_9_code
def yX2_addGapStep : MethodName := ⟨RX2, "addGapStep", "(IIII)V"⟩
abbrev cX2_addPin : ByteArray := prog_4_method_10_code
def yX2_addPin : MethodName := ⟨RX2, "addPin", "(II)V"⟩
abbrev cX2_weightOf : ByteArray := prog_4_method_11_code
def yX2_weightOf : MethodName := ⟨RX2, "weightOf", "(I)I"⟩
abbrev cX2_between : ByteArray := prog_4_method_12_code
def yX2_between : MethodName := ⟨RX2, "between", "(II)I"⟩
abbrev cX2_stepsBetween : ByteArray := prog_4_method_13_code
def yX2_stepsBetween : MethodName := ⟨RX2, "stepsBetween", "(II)I"⟩
abbrev cX2_earliest : ByteArray := prog_4_method_14_code
def yX2_earliest : MethodName := ⟨RX2, "earliest", "(I)I"⟩
abbrev cX2_latest : ByteArray := prog_4_method_15_code
def yX2_latest : MethodName := ⟨RX2, "latest", "(I)I"⟩
abbrev cX2_possibleTimes : ByteArray := prog_4_method_16_code
def yX2_possibleTimes : MethodName := ⟨RX2, "possibleTimes", "(I)I"⟩
abbrev cX2_allows : ByteArray := prog_4_method_17_code
def yX2_allows : MethodName := ⟨RX2, "allows", "(II)Z"⟩
abbrev cX2_leastRing : ByteArray := prog_4_method_18_code
def yX2_leastRing : MethodName := ⟨RX2, "leastRing", "(IIII)I"⟩
abbrev cX2_oneStepDenies : ByteArray := prog_4_method_19_code
def yX2_oneStepDenies : MethodName := ⟨RX2, "oneStepDenies", "(IIII)Z"⟩
abbrev cX2_stepOfWay : ByteArray := prog_4_method_20_code
def yX2_stepOfWay : MethodName := ⟨RX2, "stepOfWay", "(III)I"⟩
abbrev cX2_firstStep : ByteArray := prog_4_method_21_code
def yX2_firstStep : MethodName := ⟨RX2, "firstStep", "(II)I"⟩
abbrev cX2_countSettled : ByteArray := prog_4_method_22_code
def yX2_countSettled : MethodName := ⟨RX2, "countSettled", "()I"⟩
abbrev cX2_greatestEarliest : ByteArray := prog_4_method_23_code
def yX2_greatestEarliest : MethodName := ⟨RX2, "greatestEarliest", "()I"⟩
abbrev cX2_room : ByteArray := prog_4_method_24_code
def yX2_room : MethodName := ⟨RX2, "room", "()I"⟩
abbrev cX2_placeByEarliest : ByteArray := prog_4_method_25_code
def yX2_placeByEarliest : MethodName := ⟨RX2, "placeByEarliest", "(I)I"⟩
abbrev cX2_placeByLatest : ByteArray := prog_4_method_26_code
def yX2_placeByLatest : MethodName := ⟨RX2, "placeByLatest", "(I)I"⟩
abbrev cX2_countOtherBounds : ByteArray := prog_4_method_27_code
def yX2_countOtherBounds : MethodName := ⟨RX2, "countOtherBounds", "(LTimeGaps$Net;)I"⟩
abbrev cX2_countOtherTimes : ByteArray := prog_4_method_28_code
def yX2_countOtherTimes : MethodName := ⟨RX2, "countOtherTimes", "(LTimeGaps$Net;)I"⟩
def RX3 : String := "TimeGaps$Plan"
def TX3 : u_T := fun k => match k with
  | 0 => ("TimeGaps$Plan", "letters", "[I", true)
  | 1 => ("TimeGaps$Plan", "letterCounts", "[I", true)
  | 2 => ("TimeGaps$Plan", "pinTimes", "[I", true)
  | 3 => ("TimeGaps$Plan", "ones", "[I", true)
  | 4 => ("TimeGaps$Plan", "others", "[I", true)
  | 5 => ("TimeGaps$Plan", "kinds", "[I", true)
  | 6 => ("TimeGaps$Plan", "numbers", "[I", true)
  | 7 => ("TimeGaps$Plan", "ons", "[Z", true)
  | 8 => ("TimeGaps$Plan", "log", "LTimeGaps$Log;", true)
  | 9 => ("TimeGaps$Plan", "endTime", "I", false)
  | 10 => ("TimeGaps$Plan", "events", "I", false)
  | _ => ("TimeGaps$Plan", "gaps", "I", false)
def tyX3 : Nat → FieldType := fun k => match k with
  | 0 => .array .int
  | 1 => .array .int
  | 2 => .array .int
  | 3 => .array .int
  | 4 => .array .int
  | 5 => .array .int
  | 6 => .array .int
  | 7 => .array .boolean
  | 8 => .object "TimeGaps$Log"
  | 9 => .int
  | 10 => .int
  | _ => .int
abbrev wsX30 : List Cond := u_ws RX3 TX3 12
theorem nmX3 : ∀ a, a < 12 → ∀ b, b < 12 → a ≠ b → (TX3 a).2.1 ≠ (TX3 b).2.1 := by decide +kernel
theorem tyX3_ok : ∀ k, k < 12 → parseFieldDescriptor (TX3 k).2.2.1 = some (tyX3 k) := by decide +kernel
abbrev cX3_init : ByteArray := prog_5_method_1_code
def yX3_init : MethodName := ⟨RX3, "<init>", "()V"⟩
abbrev cX3_clear : ByteArray := prog_5_method_2_code
def yX3_clear : MethodName := ⟨RX3, "clear", "()V"⟩
abbrev cX3_addStart : ByteArray := prog_5_method_3_code
def yX3_addStart : MethodName := ⟨RX3, "addStart", "()V"⟩
abbrev cX3_copyFrom : ByteArray := prog_5_method_4_code
def yX3_copyFrom : MethodName := ⟨RX3, "copyFrom", "(LTimeGaps$Plan;)V"⟩
abbrev cX3_addEvent : ByteArray := prog_5_method_5_code
def yX3_addEvent : MethodName := ⟨RX3, "addEvent", "(LTimeGaps$Tape;II)I"⟩
abbrev cX3_nameEvent : ByteArray := prog_5_method_6_code
def yX3_nameEvent : MethodName := ⟨RX3, "nameEvent", "(ILTimeGaps$Tape;II)V"⟩
abbrev cX3_letterOf : ByteArray := prog_5_method_7_code
def yX3_letterOf : MethodName := ⟨RX3, "letterOf", "(II)I"⟩
abbrev cX3_findEvent : ByteArray := prog_5_method_8_code
def yX3_findEvent : MethodName := ⟨RX3, "findEvent", "(LTimeGaps$Tape;II)I"⟩
abbrev cX3_isNamed : ByteArray := prog_5_method_9_code
def yX3_isNamed : MethodName := ⟨RX3, "isNamed", "(ILTimeGaps$Tape;II)Z"⟩
abbrev cX3_addGap : ByteArray := prog_5_method_10_code
def yX3_addGap : MethodName := ⟨RX3, "addGap", "(IIIIZ)I"⟩
abbrev cX3_removeGap : ByteArray := prog_5_method_11_code
def yX3_removeGap : MethodName := ⟨RX3, "removeGap", "(I)V"⟩
abbrev cX3_isPinned : ByteArray := prog_5_method_12_code
def yX3_isPinned : MethodName := ⟨RX3, "isPinned", "(I)Z"⟩
abbrev cX3_hasEvent : ByteArray := prog_5_method_13_code
def yX3_hasEvent : MethodName := ⟨RX3, "hasEvent", "(II)Z"⟩
abbrev cX3_countPinned : ByteArray := prog_5_method_14_code
def yX3_countPinned : MethodName := ⟨RX3, "countPinned", "()I"⟩
abbrev cX3_countOn : ByteArray := prog_5_method_15_code
def yX3_countOn : MethodName := ⟨RX3, "countOn", "()I"⟩
abbrev cX3_countOnOf : ByteArray := prog_5_method_16_code
def yX3_countOnOf : MethodName := ⟨RX3, "countOnOf", "(I)I"⟩
def RX4 : String := "TimeGaps$SetupReader"
def TX4 : u_T := fun k => match k with
  | 0 => ("TimeGaps$SetupReader", "tape", "LTimeGaps$Tape;", true)
  | 1 => ("TimeGaps$SetupReader", "draft", "LTimeGaps$Plan;", true)
  | 2 => ("TimeGaps$SetupReader", "net", "LTimeGaps$Net;", true)
  | 3 => ("TimeGaps$SetupReader", "token", "I", false)
  | 4 => ("TimeGaps$SetupReader", "tokenAt", "I", false)
  | _ => ("TimeGaps$SetupReader", "tokenLength", "I", false)
def tyX4 : Nat → FieldType := fun k => match k with
  | 0 => .object "TimeGaps$Tape"
  | 1 => .object "TimeGaps$Plan"
  | 2 => .object "TimeGaps$Net"
  | 3 => .int
  | 4 => .int
  | _ => .int
abbrev wsX40 : List Cond := u_ws RX4 TX4 6
theorem nmX4 : ∀ a, a < 6 → ∀ b, b < 6 → a ≠ b → (TX4 a).2.1 ≠ (TX4 b).2.1 := by decide +kernel
theorem tyX4_ok : ∀ k, k < 6 → parseFieldDescriptor (TX4 k).2.2.1 = some (tyX4 k) := by decide +kernel
abbrev cX4_init : ByteArray := prog_6_method_1_code
def yX4_init : MethodName := ⟨RX4, "<init>", "()V"⟩
abbrev cX4_read : ByteArray := prog_6_method_2_code
def yX4_read : MethodName := ⟨RX4, "read", "()Z"⟩
abbrev cX4_position : ByteArray := prog_6_method_3_code
def yX4_position : MethodName := ⟨RX4, "position", "()I"⟩
abbrev cX4_next : ByteArray := prog_6_method_4_code
def yX4_next : MethodName := ⟨RX4, "next", "()V"⟩
abbrev cX4_isHere : ByteArray := prog_6_method_5_code
def yX4_isHere : MethodName := ⟨RX4, "isHere", "(Ljava/lang/String;)Z"⟩
abbrev cX4_takeWord : ByteArray := prog_6_method_6_code
def yX4_takeWord : MethodName := ⟨RX4, "takeWord", "(Ljava/lang/String;)Z"⟩
abbrev cX4_takeSemicolon : ByteArray := prog_6_method_7_code
def yX4_takeSemicolon : MethodName := ⟨RX4, "takeSemicolon", "()Z"⟩
abbrev cX4_numberHere : ByteArray := prog_6_method_8_code
def yX4_numberHere : MethodName := ⟨RX4, "numberHere", "()I"⟩
abbrev cX4_eventHere : ByteArray := prog_6_method_9_code
def yX4_eventHere : MethodName := ⟨RX4, "eventHere", "()I"⟩
abbrev cX4_kindHere : ByteArray := prog_6_method_10_code
def yX4_kindHere : MethodName := ⟨RX4, "kindHere", "()I"⟩
abbrev cX4_readEnd : ByteArray := prog_6_method_11_code
def yX4_readEnd : MethodName := ⟨RX4, "readEnd", "()Z"⟩
abbrev cX4_readEvent : ByteArray := prog_6_method_12_code
def yX4_readEvent : MethodName := ⟨RX4, "readEvent", "()Z"⟩
abbrev cX4_readGap : ByteArray := prog_6_method_13_code
def yX4_readGap : MethodName := ⟨RX4, "readGap", "()Z"⟩
abbrev cX4_readPin : ByteArray := prog_6_method_14_code
def yX4_readPin : MethodName := ⟨RX4, "readPin", "()Z"⟩
def RX5 : String := "TimeGaps$Slots"
def TX5 : u_T := fun k => match k with
  | 0 => ("TimeGaps$Slots", "plans", "[LTimeGaps$Plan;", true)
  | _ => ("TimeGaps$Slots", "filled", "[Z", true)
def tyX5 : Nat → FieldType := fun k => match k with
  | 0 => .array (.object "TimeGaps$Plan")
  | _ => .array .boolean
abbrev wsX50 : List Cond := u_ws RX5 TX5 2
theorem nmX5 : ∀ a, a < 2 → ∀ b, b < 2 → a ≠ b → (TX5 a).2.1 ≠ (TX5 b).2.1 := by decide +kernel
theorem tyX5_ok : ∀ k, k < 2 → parseFieldDescriptor (TX5 k).2.2.1 = some (tyX5 k) := by decide +kernel
abbrev cX5_init : ByteArray := prog_7_method_1_code
def yX5_init : MethodName := ⟨RX5, "<init>", "()V"⟩
abbrev cX5_clear : ByteArray := prog_7_method_2_code
def yX5_clear : MethodName := ⟨RX5, "clear", "()V"⟩
def RX6 : String := "TimeGaps$Tape"
def TX6 : u_T := fun k => match k with
  | 0 => ("TimeGaps$Tape", "bytes", "[I", true)
  | _ => ("TimeGaps$Tape", "length", "I", false)
def tyX6 : Nat → FieldType := fun k => match k with
  | 0 => .array .int
  | _ => .int
abbrev wsX60 : List Cond := u_ws RX6 TX6 2
theorem nmX6 : ∀ a, a < 2 → ∀ b, b < 2 → a ≠ b → (TX6 a).2.1 ≠ (TX6 b).2.1 := by decide +kernel
theorem tyX6_ok : ∀ k, k < 2 → parseFieldDescriptor (TX6 k).2.2.1 = some (tyX6 k) := by decide +kernel
abbrev cX6_init : ByteArray := prog_8_method_1_code
def yX6_init : MethodName := ⟨RX6, "<init>", "()V"⟩
abbrev cX6_putFourBytes : ByteArray := prog_8_method_2_code
def yX6_putFourBytes : MethodName := ⟨RX6, "putFourBytes", "(I)V"⟩
abbrev cX6_byteAt : ByteArray := prog_8_method_3_code
def yX6_byteAt : MethodName := ⟨RX6, "byteAt", "(I)I"⟩
abbrev cX6_isName : ByteArray := prog_8_method_4_code
def yX6_isName : MethodName := ⟨RX6, "isName", "(II)Z"⟩
abbrev cX6_isKeyword : ByteArray := prog_8_method_5_code
def yX6_isKeyword : MethodName := ⟨RX6, "isKeyword", "(II)Z"⟩
abbrev cX6_spells : ByteArray := prog_8_method_6_code
def yX6_spells : MethodName := ⟨RX6, "spells", "(IILjava/lang/String;)Z"⟩
abbrev cX6_countLetters : ByteArray := prog_8_method_7_code
def yX6_countLetters : MethodName := ⟨RX6, "countLetters", "(I)I"⟩
abbrev cX6_countDigits : ByteArray := prog_8_method_8_code
def yX6_countDigits : MethodName := ⟨RX6, "countDigits", "(I)I"⟩
abbrev cX6_countSpaces : ByteArray := prog_8_method_9_code
def yX6_countSpaces : MethodName := ⟨RX6, "countSpaces", "(I)I"⟩
abbrev cX6_isLetter : ByteArray := prog_8_method_10_code
def yX6_isLetter : MethodName := ⟨RX6, "isLetter", "(I)Z"⟩
abbrev cX6_isDigit : ByteArray := prog_8_method_11_code
def yX6_isDigit : MethodName := ⟨RX6, "isDigit", "(I)Z"⟩
def RX7 : String := "TimeGaps$Text"
def TX7 : u_T := fun k => match k with
  | 0 => ("TimeGaps$Text", "bytes", "[I", true)
  | _ => ("TimeGaps$Text", "length", "I", false)
def tyX7 : Nat → FieldType := fun k => match k with
  | 0 => .array .int
  | _ => .int
abbrev wsX70 : List Cond := u_ws RX7 TX7 2
theorem nmX7 : ∀ a, a < 2 → ∀ b, b < 2 → a ≠ b → (TX7 a).2.1 ≠ (TX7 b).2.1 := by decide +kernel
theorem tyX7_ok : ∀ k, k < 2 → parseFieldDescriptor (TX7 k).2.2.1 = some (tyX7 k) := by decide +kernel
abbrev cX7_init : ByteArray := prog_9_method_1_code
def yX7_init : MethodName := ⟨RX7, "<init>", "()V"⟩
abbrev cX7_byteAt : ByteArray := prog_9_method_2_code
def yX7_byteAt : MethodName := ⟨RX7, "byteAt", "(I)I"⟩
abbrev cX7_writeList : ByteArray := prog_9_method_3_code
def yX7_writeList : MethodName := ⟨RX7, "writeList", "(LTimeGaps$Plan;LTimeGaps$Net;)V"⟩
abbrev cX7_writeSetup : ByteArray := prog_9_method_4_code
def yX7_writeSetup : MethodName := ⟨RX7, "writeSetup", "(LTimeGaps$Plan;)V"⟩
abbrev cX7_putGap : ByteArray := prog_9_method_5_code
def yX7_putGap : MethodName := ⟨RX7, "putGap", "(LTimeGaps$Plan;I)V"⟩
abbrev cX7_putName : ByteArray := prog_9_method_6_code
def yX7_putName : MethodName := ⟨RX7, "putName", "(LTimeGaps$Plan;I)V"⟩
abbrev cX7_putWord : ByteArray := prog_9_method_7_code
def yX7_putWord : MethodName := ⟨RX7, "putWord", "(Ljava/lang/String;)V"⟩
abbrev cX7_putNumber : ByteArray := prog_9_method_8_code
def yX7_putNumber : MethodName := ⟨RX7, "putNumber", "(I)V"⟩
abbrev cX7_put : ByteArray := prog_9_method_9_code
def yX7_put : MethodName := ⟨RX7, "put", "(I)V"⟩
def RX8 : String := "TimeGaps"
def TX8 : u_T := fun k => match k with
  | 0 => ("TimeGaps", "plan", "LTimeGaps$Plan;", true)
  | 1 => ("TimeGaps", "net", "LTimeGaps$Net;", true)
  | 2 => ("TimeGaps", "trial", "LTimeGaps$Net;", true)
  | 3 => ("TimeGaps", "history", "LTimeGaps$History;", true)
  | 4 => ("TimeGaps", "slots", "LTimeGaps$Slots;", true)
  | 5 => ("TimeGaps", "reader", "LTimeGaps$SetupReader;", true)
  | 6 => ("TimeGaps", "tape", "LTimeGaps$Tape;", true)
  | 7 => ("TimeGaps", "text", "LTimeGaps$Text;", true)
  | _ => ("TimeGaps", "errorAt", "I", false)
def tyX8 : Nat → FieldType := fun k => match k with
  | 0 => .object "TimeGaps$Plan"
  | 1 => .object "TimeGaps$Net"
  | 2 => .object "TimeGaps$Net"
  | 3 => .object "TimeGaps$History"
  | 4 => .object "TimeGaps$Slots"
  | 5 => .object "TimeGaps$SetupReader"
  | 6 => .object "TimeGaps$Tape"
  | 7 => .object "TimeGaps$Text"
  | _ => .int
abbrev wsX80 : List Cond := u_ws RX8 TX8 9
theorem nmX8 : ∀ a, a < 9 → ∀ b, b < 9 → a ≠ b → (TX8 a).2.1 ≠ (TX8 b).2.1 := by decide +kernel
theorem tyX8_ok : ∀ k, k < 9 → parseFieldDescriptor (TX8 k).2.2.1 = some (tyX8 k) := by decide +kernel
abbrev cX8_init : ByteArray := prog_1_method_1_code
def yX8_init : MethodName := ⟨RX8, "<init>", "()V"⟩
abbrev cX8_append : ByteArray := prog_1_method_2_code
def yX8_append : MethodName := ⟨RX8, "append", "(IIIII)I"⟩
abbrev cX8_truncate : ByteArray := prog_1_method_3_code
def yX8_truncate : MethodName := ⟨RX8, "truncate", "(I)I"⟩
abbrev cX8_load : ByteArray := prog_1_method_4_code
def yX8_load : MethodName := ⟨RX8, "load", "()I"⟩
abbrev cX8_errorPosition : ByteArray := prog_1_method_5_code
def yX8_errorPosition : MethodName := ⟨RX8, "errorPosition", "()I"⟩
abbrev cX8_open : ByteArray := prog_1_method_6_code
def yX8_open : MethodName := ⟨RX8, "open", "()I"⟩
abbrev cX8_tell : ByteArray := prog_1_method_7_code
def yX8_tell : MethodName := ⟨RX8, "tell", "(IIII)I"⟩
abbrev cX8_drop : ByteArray := prog_1_method_8_code
def yX8_drop : MethodName := ⟨RX8, "drop", "(I)I"⟩
abbrev cX8_set : ByteArray := prog_1_method_9_code
def yX8_set : MethodName := ⟨RX8, "set", "(II)I"⟩
abbrev cX8_turn : ByteArray := prog_1_method_10_code
def yX8_turn : MethodName := ⟨RX8, "turn", "(I)I"⟩
abbrev cX8_pin : ByteArray := prog_1_method_11_code
def yX8_pin : MethodName := ⟨RX8, "pin", "(II)I"⟩
abbrev cX8_unpin : ByteArray := prog_1_method_12_code
def yX8_unpin : MethodName := ⟨RX8, "unpin", "(I)I"⟩
abbrev cX8_end : ByteArray := prog_1_method_13_code
def yX8_end : MethodName := ⟨RX8, "end", "(I)I"⟩
abbrev cX8_rename : ByteArray := prog_1_method_14_code
def yX8_rename : MethodName := ⟨RX8, "rename", "(I)I"⟩
abbrev cX8_reverse : ByteArray := prog_1_method_15_code
def yX8_reverse : MethodName := ⟨RX8, "reverse", "(I)I"⟩
abbrev cX8_tighten : ByteArray := prog_1_method_16_code
def yX8_tighten : MethodName := ⟨RX8, "tighten", "()I"⟩
abbrev cX8_thin : ByteArray := prog_1_method_17_code
def yX8_thin : MethodName := ⟨RX8, "thin", "()I"⟩
abbrev cX8_pinAll : ByteArray := prog_1_method_18_code
def yX8_pinAll : MethodName := ⟨RX8, "pinAll", "()I"⟩
abbrev cX8_keep : ByteArray := prog_1_method_19_code
def yX8_keep : MethodName := ⟨RX8, "keep", "(I)I"⟩
abbrev cX8_restore : ByteArray := prog_1_method_20_code
def yX8_restore : MethodName := ⟨RX8, "restore", "(I)I"⟩
abbrev cX8_undo : ByteArray := prog_1_method_21_code
def yX8_undo : MethodName := ⟨RX8, "undo", "()I"⟩
abbrev cX8_value : ByteArray := prog_1_method_22_code
def yX8_value : MethodName := ⟨RX8, "value", "(I)I"⟩
abbrev cX8_letter : ByteArray := prog_1_method_23_code
def yX8_letter : MethodName := ⟨RX8, "letter", "(II)I"⟩
abbrev cX8_gap : ByteArray := prog_1_method_24_code
def yX8_gap : MethodName := ⟨RX8, "gap", "(II)I"⟩
abbrev cX8_event : ByteArray := prog_1_method_25_code
def yX8_event : MethodName := ⟨RX8, "event", "(II)I"⟩
abbrev cX8_bound : ByteArray := prog_1_method_26_code
def yX8_bound : MethodName := ⟨RX8, "bound", "(II)I"⟩
abbrev cX8_way : ByteArray := prog_1_method_27_code
def yX8_way : MethodName := ⟨RX8, "way", "(III)I"⟩
abbrev cX8_wayLength : ByteArray := prog_1_method_28_code
def yX8_wayLength : MethodName := ⟨RX8, "wayLength", "(II)I"⟩
abbrev cX8_relation : ByteArray := prog_1_method_29_code
def yX8_relation : MethodName := ⟨RX8, "relation", "(II)I"⟩
abbrev cX8_play : ByteArray := prog_1_method_30_code
def yX8_play : MethodName := ⟨RX8, "play", "(II)I"⟩
abbrev cX8_pairs : ByteArray := prog_1_method_31_code
def yX8_pairs : MethodName := ⟨RX8, "pairs", "(I)I"⟩
abbrev cX8_direct : ByteArray := prog_1_method_32_code
def yX8_direct : MethodName := ⟨RX8, "direct", "(II)I"⟩
abbrev cX8_ordered : ByteArray := prog_1_method_33_code
def yX8_ordered : MethodName := ⟨RX8, "ordered", "(I)I"⟩
abbrev cX8_middle : ByteArray := prog_1_method_34_code
def yX8_middle : MethodName := ⟨RX8, "middle", "(I)I"⟩
abbrev cX8_lastly : ByteArray := prog_1_method_35_code
def yX8_lastly : MethodName := ⟨RX8, "lastly", "(I)I"⟩
abbrev cX8_can : ByteArray := prog_1_method_36_code
def yX8_can : MethodName := ⟨RX8, "can", "(II)I"⟩
abbrev cX8_widest : ByteArray := prog_1_method_37_code
def yX8_widest : MethodName := ⟨RX8, "widest", "()I"⟩
abbrev cX8_freest : ByteArray := prog_1_method_38_code
def yX8_freest : MethodName := ⟨RX8, "freest", "()I"⟩
abbrev cX8_why : ByteArray := prog_1_method_39_code
def yX8_why : MethodName := ⟨RX8, "why", "(IIIII)I"⟩
abbrev cX8_ring : ByteArray := prog_1_method_40_code
def yX8_ring : MethodName := ⟨RX8, "ring", "(IIIII)I"⟩
abbrev cX8_culprit : ByteArray := prog_1_method_41_code
def yX8_culprit : MethodName := ⟨RX8, "culprit", "(IIII)I"⟩
abbrev cX8_tightest : ByteArray := prog_1_method_42_code
def yX8_tightest : MethodName := ⟨RX8, "tightest", "(III)I"⟩
abbrev cX8_spare : ByteArray := prog_1_method_43_code
def yX8_spare : MethodName := ⟨RX8, "spare", "(I)I"⟩
abbrev cX8_needless : ByteArray := prog_1_method_44_code
def yX8_needless : MethodName := ⟨RX8, "needless", "()I"⟩
abbrev cX8_needs : ByteArray := prog_1_method_45_code
def yX8_needs : MethodName := ⟨RX8, "needs", "(I)I"⟩
abbrev cX8_ifTold : ByteArray := prog_1_method_46_code
def yX8_ifTold : MethodName := ⟨RX8, "ifTold", "(IIIII)I"⟩
abbrev cX8_ifDropped : ByteArray := prog_1_method_47_code
def yX8_ifDropped : MethodName := ⟨RX8, "ifDropped", "(II)I"⟩
abbrev cX8_ifTurned : ByteArray := prog_1_method_48_code
def yX8_ifTurned : MethodName := ⟨RX8, "ifTurned", "(II)I"⟩
abbrev cX8_ifPinned : ByteArray := prog_1_method_49_code
def yX8_ifPinned : MethodName := ⟨RX8, "ifPinned", "(III)I"⟩
abbrev cX8_leastEnd : ByteArray := prog_1_method_50_code
def yX8_leastEnd : MethodName := ⟨RX8, "leastEnd", "()I"⟩
abbrev cX8_slowest : ByteArray := prog_1_method_51_code
def yX8_slowest : MethodName := ⟨RX8, "slowest", "()I"⟩
abbrev cX8_log : ByteArray := prog_1_method_52_code
def yX8_log : MethodName := ⟨RX8, "log", "(II)I"⟩
abbrev cX8_tightShare : ByteArray := prog_1_method_53_code
def yX8_tightShare : MethodName := ⟨RX8, "tightShare", "()F"⟩
abbrev cX8_meanRoom : ByteArray := prog_1_method_54_code
def yX8_meanRoom : MethodName := ⟨RX8, "meanRoom", "()D"⟩
abbrev cX8_listLength : ByteArray := prog_1_method_55_code
def yX8_listLength : MethodName := ⟨RX8, "listLength", "()I"⟩
abbrev cX8_listByte : ByteArray := prog_1_method_56_code
def yX8_listByte : MethodName := ⟨RX8, "listByte", "(I)I"⟩
abbrev cX8_setupLength : ByteArray := prog_1_method_57_code
def yX8_setupLength : MethodName := ⟨RX8, "setupLength", "()I"⟩
abbrev cX8_setupByte : ByteArray := prog_1_method_58_code
def yX8_setupByte : MethodName := ⟨RX8, "setupByte", "(I)I"⟩
abbrev cX8_isEvent : ByteArray := prog_1_method_59_code
def yX8_isEvent : MethodName := ⟨RX8, "isEvent", "(I)Z"⟩
abbrev cX8_areTwoEvents : ByteArray := prog_1_method_60_code
def yX8_areTwoEvents : MethodName := ⟨RX8, "areTwoEvents", "(II)Z"⟩
abbrev cX8_isGap : ByteArray := prog_1_method_61_code
def yX8_isGap : MethodName := ⟨RX8, "isGap", "(I)Z"⟩
abbrev cX8_isTellable : ByteArray := prog_1_method_62_code
def yX8_isTellable : MethodName := ⟨RX8, "isTellable", "(IIII)Z"⟩
abbrev cX8_isTime : ByteArray := prog_1_method_63_code
def yX8_isTime : MethodName := ⟨RX8, "isTime", "(I)Z"⟩
abbrev cX8_isPinnable : ByteArray := prog_1_method_64_code
def yX8_isPinnable : MethodName := ⟨RX8, "isPinnable", "(I)Z"⟩
abbrev cX8_isNewNameOnTape : ByteArray := prog_1_method_65_code
def yX8_isNewNameOnTape : MethodName := ⟨RX8, "isNewNameOnTape", "()Z"⟩
abbrev cX8_isKind : ByteArray := prog_1_method_66_code
def yX8_isKind : MethodName := ⟨RX8, "isKind", "(I)Z"⟩
abbrev cX8_isNumber : ByteArray := prog_1_method_67_code
def yX8_isNumber : MethodName := ⟨RX8, "isNumber", "(I)Z"⟩
abbrev cX8_isSlot : ByteArray := prog_1_method_68_code
def yX8_isSlot : MethodName := ⟨RX8, "isSlot", "(I)Z"⟩
abbrev cX8_isChange : ByteArray := prog_1_method_69_code
def yX8_isChange : MethodName := ⟨RX8, "isChange", "(I)Z"⟩
abbrev cX8_asNumber : ByteArray := prog_1_method_70_code
def yX8_asNumber : MethodName := ⟨RX8, "asNumber", "(Z)I"⟩
abbrev cX8_finish : ByteArray := prog_1_method_71_code
def yX8_finish : MethodName := ⟨RX8, "finish", "(III)V"⟩
abbrev cX8_beginOf : ByteArray := prog_1_method_72_code
def yX8_beginOf : MethodName := ⟨RX8, "beginOf", "(I)I"⟩
abbrev cX8_finishOf : ByteArray := prog_1_method_73_code
def yX8_finishOf : MethodName := ⟨RX8, "finishOf", "(I)I"⟩
abbrev cX8_lengthOf : ByteArray := prog_1_method_74_code
def yX8_lengthOf : MethodName := ⟨RX8, "lengthOf", "(I)I"⟩
abbrev cX8_boundOf : ByteArray := prog_1_method_75_code
def yX8_boundOf : MethodName := ⟨RX8, "boundOf", "(I)I"⟩
abbrev cX8_ringOfGap : ByteArray := prog_1_method_76_code
def yX8_ringOfGap : MethodName := ⟨RX8, "ringOfGap", "(II)I"⟩
abbrev cX8_isTight : ByteArray := prog_1_method_77_code
def yX8_isTight : MethodName := ⟨RX8, "isTight", "(I)Z"⟩
abbrev cX8_isNeeded : ByteArray := prog_1_method_78_code
def yX8_isNeeded : MethodName := ⟨RX8, "isNeeded", "(I)Z"⟩
abbrev cX8_isLoose : ByteArray := prog_1_method_79_code
def yX8_isLoose : MethodName := ⟨RX8, "isLoose", "(I)Z"⟩
abbrev cX8_tightNumber : ByteArray := prog_1_method_80_code
def yX8_tightNumber : MethodName := ⟨RX8, "tightNumber", "(I)I"⟩
abbrev cX8_tightestNumber : ByteArray := prog_1_method_81_code
def yX8_tightestNumber : MethodName := ⟨RX8, "tightestNumber", "(III)I"⟩
abbrev cX8_countTight : ByteArray := prog_1_method_82_code
def yX8_countTight : MethodName := ⟨RX8, "countTight", "()I"⟩
abbrev cX8_countNeeded : ByteArray := prog_1_method_83_code
def yX8_countNeeded : MethodName := ⟨RX8, "countNeeded", "()I"⟩
abbrev cX8_firstNeedless : ByteArray := prog_1_method_84_code
def yX8_firstNeedless : MethodName := ⟨RX8, "firstNeedless", "(I)I"⟩
abbrev cX8_relationOf : ByteArray := prog_1_method_85_code
def yX8_relationOf : MethodName := ⟨RX8, "relationOf", "(II)I"⟩
abbrev cX8_stepOfRing : ByteArray := prog_1_method_86_code
def yX8_stepOfRing : MethodName := ⟨RX8, "stepOfRing", "(IIII)I"⟩
abbrev cX8_tryWithout : ByteArray := prog_1_method_87_code
def yX8_tryWithout : MethodName := ⟨RX8, "tryWithout", "(I)V"⟩
abbrev cX8_changeOnTrial : ByteArray := prog_1_method_88_code
def yX8_changeOnTrial : MethodName := ⟨RX8, "changeOnTrial", "(I)I"⟩
abbrev cX8_stepBegin : ByteArray := prog_1_method_89_code
def yX8_stepBegin : MethodName := ⟨RX8, "stepBegin", "(III)I"⟩
abbrev cX8_stepFinish : ByteArray := prog_1_method_90_code
def yX8_stepFinish : MethodName := ⟨RX8, "stepFinish", "(III)I"⟩
abbrev cX8_stepLength : ByteArray := prog_1_method_91_code
def yX8_stepLength : MethodName := ⟨RX8, "stepLength", "(II)I"⟩
def RX9 : String := "TimeGapsModel"
def TX9 : u_T := fun k => match k with
  | 0 => ("TimeGapsModel", "tape", "[B", true)
  | 1 => ("TimeGapsModel", "taped", "I", false)
  | 2 => ("TimeGapsModel", "errorAt", "I", false)
  | 3 => ("TimeGapsModel", "world", "[I", true)
  | 4 => ("TimeGapsModel", "aside", "[I", true)
  | 5 => ("TimeGapsModel", "undone", "[I", true)
  | 6 => ("TimeGapsModel", "slots", "[I", true)
  | 7 => ("TimeGapsModel", "isKept", "[Z", true)
  | 8 => ("TimeGapsModel", "undos", "I", false)
  | 9 => ("TimeGapsModel", "stepFrom", "[I", true)
  | 10 => ("TimeGapsModel", "stepTo", "[I", true)
  | 11 => ("TimeGapsModel", "stepLength", "[I", true)
  | 12 => ("TimeGapsModel", "stepNumber", "[I", true)
  | 13 => ("TimeGapsModel", "steps", "I", false)
  | 14 => ("TimeGapsModel", "bound", "[I", true)
  | 15 => ("TimeGapsModel", "readAt", "I", false)
  | 16 => ("TimeGapsModel", "start", "I", false)
  | 17 => ("TimeGapsModel", "kind", "I", false)
  | 18 => ("TimeGapsModel", "word", "I", false)
  | 19 => ("TimeGapsModel", "number", "I", false)
  | 20 => ("TimeGapsModel", "fine", "Z", false)
  | 21 => ("TimeGapsModel", "sums", "[I", true)
  | 22 => ("TimeGapsModel", "wayStep", "[I", true)
  | 23 => ("TimeGapsModel", "asideFrom", "I", false)
  | 24 => ("TimeGapsModel", "asideTo", "I", false)
  | 25 => ("TimeGapsModel", "asideLength", "I", false)
  | 26 => ("TimeGapsModel", "now", "[I", true)
  | 27 => ("TimeGapsModel", "text", "[B", true)
  | _ => ("TimeGapsModel", "texted", "I", false)
def tyX9 : Nat → FieldType := fun k => match k with
  | 0 => .array .byte
  | 1 => .int
  | 2 => .int
  | 3 => .array .int
  | 4 => .array .int
  | 5 => .array .int
  | 6 => .array .int
  | 7 => .array .boolean
  | 8 => .int
  | 9 => .array .int
  | 10 => .array .int
  | 11 => .array .int
  | 12 => .array .int
  | 13 => .int
  | 14 => .array .int
  | 15 => .int
  | 16 => .int
  | 17 => .int
  | 18 => .int
  | 19 => .int
  | 20 => .boolean
  | 21 => .array .int
  | 22 => .array .int
  | 23 => .int
  | 24 => .int
  | 25 => .int
  | 26 => .array .int
  | 27 => .array .byte
  | _ => .int
abbrev wsX90 : List Cond := u_ws RX9 TX9 29
theorem nmX9 : ∀ a, a < 29 → ∀ b, b < 29 → a ≠ b → (TX9 a).2.1 ≠ (TX9 b).2.1 := by decide +kernel
theorem tyX9_ok : ∀ k, k < 29 → parseFieldDescriptor (TX9 k).2.2.1 = some (tyX9 k) := by decide +kernel
abbrev cX9_init : ByteArray := prog_11_method_1_code
def yX9_init : MethodName := ⟨RX9, "<init>", "()V"⟩
abbrev cX9_in : ByteArray := prog_11_method_2_code
def yX9_in : MethodName := ⟨RX9, "in", "(III)Z"⟩
abbrev cX9_begins : ByteArray := prog_11_method_3_code
def yX9_begins : MethodName := ⟨RX9, "begins", "()V"⟩
abbrev cX9_fails : ByteArray := prog_11_method_4_code
def yX9_fails : MethodName := ⟨RX9, "fails", "(I)I"⟩
abbrev cX9_done : ByteArray := prog_11_method_5_code
def yX9_done : MethodName := ⟨RX9, "done", "(I)I"⟩
abbrev cX9_undo : ByteArray := prog_11_method_6_code
def yX9_undo : MethodName := ⟨RX9, "undo", "()I"⟩
abbrev cX9_keep : ByteArray := prog_11_method_7_code
def yX9_keep : MethodName := ⟨RX9, "keep", "(I)I"⟩
abbrev cX9_restore : ByteArray := prog_11_method_8_code
def yX9_restore : MethodName := ⟨RX9, "restore", "(I)I"⟩
abbrev cX9_logs : ByteArray := prog_11_method_9_code
def yX9_logs : MethodName := ⟨RX9, "logs", "(III)V"⟩
abbrev cX9_log : ByteArray := prog_11_method_10_code
def yX9_log : MethodName := ⟨RX9, "log", "(II)I"⟩
abbrev cX9_of : ByteArray := prog_11_method_11_code
def yX9_of : MethodName := ⟨RX9, "of", "(II)I"⟩
abbrev cX9_puts : ByteArray := prog_11_method_12_code
def yX9_puts : MethodName := ⟨RX9, "puts", "(III)V"⟩
abbrev cX9_isOn : ByteArray := prog_11_method_13_code
def yX9_isOn : MethodName := ⟨RX9, "isOn", "(I)Z"⟩
abbrev cX9_isEvent : ByteArray := prog_11_method_14_code
def yX9_isEvent : MethodName := ⟨RX9, "isEvent", "(I)Z"⟩
abbrev cX9_isGap : ByteArray := prog_11_method_15_code
def yX9_isGap : MethodName := ⟨RX9, "isGap", "(I)Z"⟩
abbrev cX9_isPinned : ByteArray := prog_11_method_16_code
def yX9_isPinned : MethodName := ⟨RX9, "isPinned", "(I)Z"⟩
abbrev cX9_isN : ByteArray := prog_11_method_17_code
def yX9_isN : MethodName := ⟨RX9, "isN", "(II)Z"⟩
abbrev cX9_areTwo : ByteArray := prog_11_method_18_code
def yX9_areTwo : MethodName := ⟨RX9, "areTwo", "(II)Z"⟩
abbrev cX9_fromOf : ByteArray := prog_11_method_19_code
def yX9_fromOf : MethodName := ⟨RX9, "fromOf", "(I)I"⟩
abbrev cX9_toOf : ByteArray := prog_11_method_20_code
def yX9_toOf : MethodName := ⟨RX9, "toOf", "(I)I"⟩
abbrev cX9_lengthOf : ByteArray := prog_11_method_21_code
def yX9_lengthOf : MethodName := ⟨RX9, "lengthOf", "(I)I"⟩
abbrev cX9_laysStep : ByteArray := prog_11_method_22_code
def yX9_laysStep : MethodName := ⟨RX9, "laysStep", "(IIII)V"⟩
abbrev cX9_laysSteps : ByteArray := prog_11_method_23_code
def yX9_laysSteps : MethodName := ⟨RX9, "laysSteps", "()V"⟩
abbrev cX9_pair : ByteArray := prog_11_method_24_code
def yX9_pair : MethodName := ⟨RX9, "pair", "(II)I"⟩
abbrev cX9_boundOf : ByteArray := prog_11_method_25_code
def yX9_boundOf : MethodName := ⟨RX9, "boundOf", "(II)I"⟩
abbrev cX9_lays : ByteArray := prog_11_method_26_code
def yX9_lays : MethodName := ⟨RX9, "lays", "()Z"⟩
abbrev cX9_earliest : ByteArray := prog_11_method_27_code
def yX9_earliest : MethodName := ⟨RX9, "earliest", "(I)I"⟩
abbrev cX9_latest : ByteArray := prog_11_method_28_code
def yX9_latest : MethodName := ⟨RX9, "latest", "(I)I"⟩
abbrev cX9_roomOf : ByteArray := prog_11_method_29_code
def yX9_roomOf : MethodName := ⟨RX9, "roomOf", "(I)I"⟩
abbrev cX9_allRoom : ByteArray := prog_11_method_30_code
def yX9_allRoom : MethodName := ⟨RX9, "allRoom", "()I"⟩
abbrev cX9_isTight : ByteArray := prog_11_method_31_code
def yX9_isTight : MethodName := ⟨RX9, "isTight", "(I)Z"⟩
abbrev cX9_isNeeded : ByteArray := prog_11_method_32_code
def yX9_isNeeded : MethodName := ⟨RX9, "isNeeded", "(I)Z"⟩
abbrev cX9_comes : ByteArray := prog_11_method_33_code
def yX9_comes : MethodName := ⟨RX9, "comes", "(IIIII)I"⟩
abbrev cX9_doneIf : ByteArray := prog_11_method_34_code
def yX9_doneIf : MethodName := ⟨RX9, "doneIf", "(IIII)I"⟩
abbrev cX9_tell : ByteArray := prog_11_method_35_code
def yX9_tell : MethodName := ⟨RX9, "tell", "(IIII)I"⟩
abbrev cX9_drops : ByteArray := prog_11_method_36_code
def yX9_drops : MethodName := ⟨RX9, "drops", "(I)V"⟩
abbrev cX9_drop : ByteArray := prog_11_method_37_code
def yX9_drop : MethodName := ⟨RX9, "drop", "(I)I"⟩
abbrev cX9_set : ByteArray := prog_11_method_38_code
def yX9_set : MethodName := ⟨RX9, "set", "(II)I"⟩
abbrev cX9_turn : ByteArray := prog_11_method_39_code
def yX9_turn : MethodName := ⟨RX9, "turn", "(I)I"⟩
abbrev cX9_pinned : ByteArray := prog_11_method_40_code
def yX9_pinned : MethodName := ⟨RX9, "pinned", "()I"⟩
abbrev cX9_pin : ByteArray := prog_11_method_41_code
def yX9_pin : MethodName := ⟨RX9, "pin", "(II)I"⟩
abbrev cX9_unpin : ByteArray := prog_11_method_42_code
def yX9_unpin : MethodName := ⟨RX9, "unpin", "(I)I"⟩
abbrev cX9_end : ByteArray := prog_11_method_43_code
def yX9_end : MethodName := ⟨RX9, "end", "(I)I"⟩
abbrev cX9_reverse : ByteArray := prog_11_method_44_code
def yX9_reverse : MethodName := ⟨RX9, "reverse", "(I)I"⟩
abbrev cX9_tighten : ByteArray := prog_11_method_45_code
def yX9_tighten : MethodName := ⟨RX9, "tighten", "()I"⟩
abbrev cX9_firstNeedless : ByteArray := prog_11_method_46_code
def yX9_firstNeedless : MethodName := ⟨RX9, "firstNeedless", "()I"⟩
abbrev cX9_thin : ByteArray := prog_11_method_47_code
def yX9_thin : MethodName := ⟨RX9, "thin", "()I"⟩
abbrev cX9_pinAll : ByteArray := prog_11_method_48_code
def yX9_pinAll : MethodName := ⟨RX9, "pinAll", "()I"⟩
abbrev cX9_isByte : ByteArray := prog_11_method_49_code
def yX9_isByte : MethodName := ⟨RX9, "isByte", "(II)Z"⟩
abbrev cX9_takesLetters : ByteArray := prog_11_method_50_code
def yX9_takesLetters : MethodName := ⟨RX9, "takesLetters", "()V"⟩
abbrev cX9_takesDigits : ByteArray := prog_11_method_51_code
def yX9_takesDigits : MethodName := ⟨RX9, "takesDigits", "()V"⟩
abbrev cX9_nextToken : ByteArray := prog_11_method_52_code
def yX9_nextToken : MethodName := ⟨RX9, "nextToken", "()V"⟩
abbrev cX9_takes : ByteArray := prog_11_method_53_code
def yX9_takes : MethodName := ⟨RX9, "takes", "(Z)V"⟩
abbrev cX9_isKey : ByteArray := prog_11_method_54_code
def yX9_isKey : MethodName := ⟨RX9, "isKey", "(I)Z"⟩
abbrev cX9_isKeyword : ByteArray := prog_11_method_55_code
def yX9_isKeyword : MethodName := ⟨RX9, "isKeyword", "(I)Z"⟩
abbrev cX9_isName : ByteArray := prog_11_method_56_code
def yX9_isName : MethodName := ⟨RX9, "isName", "(I)Z"⟩
abbrev cX9_named : ByteArray := prog_11_method_57_code
def yX9_named : MethodName := ⟨RX9, "named", "(I)I"⟩
abbrev cX9_numberIn : ByteArray := prog_11_method_58_code
def yX9_numberIn : MethodName := ⟨RX9, "numberIn", "(II)I"⟩
abbrev cX9_opens : ByteArray := prog_11_method_59_code
def yX9_opens : MethodName := ⟨RX9, "opens", "(I)V"⟩
abbrev cX9_readEvent : ByteArray := prog_11_method_60_code
def yX9_readEvent : MethodName := ⟨RX9, "readEvent", "()V"⟩
abbrev cX9_readEventName : ByteArray := prog_11_method_61_code
def yX9_readEventName : MethodName := ⟨RX9, "readEventName", "(I)I"⟩
abbrev cX9_readGap : ByteArray := prog_11_method_62_code
def yX9_readGap : MethodName := ⟨RX9, "readGap", "()V"⟩
abbrev cX9_readPin : ByteArray := prog_11_method_63_code
def yX9_readPin : MethodName := ⟨RX9, "readPin", "()V"⟩
abbrev cX9_load : ByteArray := prog_11_method_64_code
def yX9_load : MethodName := ⟨RX9, "load", "()I"⟩
abbrev cX9_errorPosition : ByteArray := prog_11_method_65_code
def yX9_errorPosition : MethodName := ⟨RX9, "errorPosition", "()I"⟩
abbrev cX9_tapes : ByteArray := prog_11_method_66_code
def yX9_tapes : MethodName := ⟨RX9, "tapes", "(I)V"⟩
abbrev cX9_append : ByteArray := prog_11_method_67_code
def yX9_append : MethodName := ⟨RX9, "append", "(IIIII)I"⟩
abbrev cX9_truncate : ByteArray := prog_11_method_68_code
def yX9_truncate : MethodName := ⟨RX9, "truncate", "(I)I"⟩
abbrev cX9_taped : ByteArray := prog_11_method_69_code
def yX9_taped : MethodName := ⟨RX9, "taped", "()I"⟩
abbrev cX9_open : ByteArray := prog_11_method_70_code
def yX9_open : MethodName := ⟨RX9, "open", "()I"⟩
abbrev cX9_rename : ByteArray := prog_11_method_71_code
def yX9_rename : MethodName := ⟨RX9, "rename", "(I)I"⟩
abbrev cX9_onGaps : ByteArray := prog_11_method_72_code
def yX9_onGaps : MethodName := ⟨RX9, "onGaps", "()I"⟩
abbrev cX9_tightGaps : ByteArray := prog_11_method_73_code
def yX9_tightGaps : MethodName := ⟨RX9, "tightGaps", "()I"⟩
abbrev cX9_neededGaps : ByteArray := prog_11_method_74_code
def yX9_neededGaps : MethodName := ⟨RX9, "neededGaps", "(I)I"⟩
abbrev cX9_fixedEvents : ByteArray := prog_11_method_75_code
def yX9_fixedEvents : MethodName := ⟨RX9, "fixedEvents", "()I"⟩
abbrev cX9_greatestEarliest : ByteArray := prog_11_method_76_code
def yX9_greatestEarliest : MethodName := ⟨RX9, "greatestEarliest", "()I"⟩
abbrev cX9_value : ByteArray := prog_11_method_77_code
def yX9_value : MethodName := ⟨RX9, "value", "(I)I"⟩
abbrev cX9_lettersOf : ByteArray := prog_11_method_78_code
def yX9_lettersOf : MethodName := ⟨RX9, "lettersOf", "(I)I"⟩
abbrev cX9_letterOf : ByteArray := prog_11_method_79_code
def yX9_letterOf : MethodName := ⟨RX9, "letterOf", "(II)I"⟩
abbrev cX9_letter : ByteArray := prog_11_method_80_code
def yX9_letter : MethodName := ⟨RX9, "letter", "(II)I"⟩
abbrev cX9_gap : ByteArray := prog_11_method_81_code
def yX9_gap : MethodName := ⟨RX9, "gap", "(II)I"⟩
abbrev cX9_gapsOf : ByteArray := prog_11_method_82_code
def yX9_gapsOf : MethodName := ⟨RX9, "gapsOf", "(I)I"⟩
abbrev cX9_event : ByteArray := prog_11_method_83_code
def yX9_event : MethodName := ⟨RX9, "event", "(II)I"⟩
abbrev cX9_bound : ByteArray := prog_11_method_84_code
def yX9_bound : MethodName := ⟨RX9, "bound", "(II)I"⟩
abbrev cX9_laysWay : ByteArray := prog_11_method_85_code
def yX9_laysWay : MethodName := ⟨RX9, "laysWay", "(II)I"⟩
abbrev cX9_laysSums : ByteArray := prog_11_method_86_code
def yX9_laysSums : MethodName := ⟨RX9, "laysSums", "(I)V"⟩
abbrev cX9_firstStep : ByteArray := prog_11_method_87_code
def yX9_firstStep : MethodName := ⟨RX9, "firstStep", "(III)I"⟩
abbrev cX9_way : ByteArray := prog_11_method_88_code
def yX9_way : MethodName := ⟨RX9, "way", "(III)I"⟩
abbrev cX9_wayLength : ByteArray := prog_11_method_89_code
def yX9_wayLength : MethodName := ⟨RX9, "wayLength", "(II)I"⟩
abbrev cX9_relationOf : ByteArray := prog_11_method_90_code
def yX9_relationOf : MethodName := ⟨RX9, "relationOf", "(II)I"⟩
abbrev cX9_relation : ByteArray := prog_11_method_91_code
def yX9_relation : MethodName := ⟨RX9, "relation", "(II)I"⟩
abbrev cX9_play : ByteArray := prog_11_method_92_code
def yX9_play : MethodName := ⟨RX9, "play", "(II)I"⟩
abbrev cX9_pairs : ByteArray := prog_11_method_93_code
def yX9_pairs : MethodName := ⟨RX9, "pairs", "(I)I"⟩
abbrev cX9_direct : ByteArray := prog_11_method_94_code
def yX9_direct : MethodName := ⟨RX9, "direct", "(II)I"⟩
abbrev cX9_timeOf : ByteArray := prog_11_method_95_code
def yX9_timeOf : MethodName := ⟨RX9, "timeOf", "(IZ)I"⟩
abbrev cX9_placed : ByteArray := prog_11_method_96_code
def yX9_placed : MethodName := ⟨RX9, "placed", "(IZ)I"⟩
abbrev cX9_ordered : ByteArray := prog_11_method_97_code
def yX9_ordered : MethodName := ⟨RX9, "ordered", "(I)I"⟩
abbrev cX9_lastly : ByteArray := prog_11_method_98_code
def yX9_lastly : MethodName := ⟨RX9, "lastly", "(I)I"⟩
abbrev cX9_middle : ByteArray := prog_11_method_99_code
def yX9_middle : MethodName := ⟨RX9, "middle", "(I)I"⟩
abbrev cX9_can : ByteArray := prog_11_method_100_code
def yX9_can : MethodName := ⟨RX9, "can", "(II)I"⟩
abbrev cX9_widest : ByteArray := prog_11_method_101_code
def yX9_widest : MethodName := ⟨RX9, "widest", "()I"⟩
abbrev cX9_freest : ByteArray := prog_11_method_102_code
def yX9_freest : MethodName := ⟨RX9, "freest", "()I"⟩
abbrev cX9_laysAside : ByteArray := prog_11_method_103_code
def yX9_laysAside : MethodName := ⟨RX9, "laysAside", "(IIII)V"⟩
abbrev cX9_leastRing : ByteArray := prog_11_method_104_code
def yX9_leastRing : MethodName := ⟨RX9, "leastRing", "()I"⟩
abbrev cX9_isShortRing : ByteArray := prog_11_method_105_code
def yX9_isShortRing : MethodName := ⟨RX9, "isShortRing", "()Z"⟩
abbrev cX9_why : ByteArray := prog_11_method_106_code
def yX9_why : MethodName := ⟨RX9, "why", "(IIIII)I"⟩
abbrev cX9_ring : ByteArray := prog_11_method_107_code
def yX9_ring : MethodName := ⟨RX9, "ring", "(IIIII)I"⟩
abbrev cX9_culprit : ByteArray := prog_11_method_108_code
def yX9_culprit : MethodName := ⟨RX9, "culprit", "(IIII)I"⟩
abbrev cX9_tightestOf : ByteArray := prog_11_method_109_code
def yX9_tightestOf : MethodName := ⟨RX9, "tightestOf", "(III)I"⟩
abbrev cX9_tightest : ByteArray := prog_11_method_110_code
def yX9_tightest : MethodName := ⟨RX9, "tightest", "(III)I"⟩
abbrev cX9_spare : ByteArray := prog_11_method_111_code
def yX9_spare : MethodName := ⟨RX9, "spare", "(I)I"⟩
abbrev cX9_needless : ByteArray := prog_11_method_112_code
def yX9_needless : MethodName := ⟨RX9, "needless", "()I"⟩
abbrev cX9_needs : ByteArray := prog_11_method_113_code
def yX9_needs : MethodName := ⟨RX9, "needs", "(I)I"⟩
abbrev cX9_keepsBounds : ByteArray := prog_11_method_114_code
def yX9_keepsBounds : MethodName := ⟨RX9, "keepsBounds", "()V"⟩
abbrev cX9_otherBounds : ByteArray := prog_11_method_115_code
def yX9_otherBounds : MethodName := ⟨RX9, "otherBounds", "()I"⟩
abbrev cX9_otherTimes : ByteArray := prog_11_method_116_code
def yX9_otherTimes : MethodName := ⟨RX9, "otherTimes", "()I"⟩
abbrev cX9_tellsThen : ByteArray := prog_11_method_117_code
def yX9_tellsThen : MethodName := ⟨RX9, "tellsThen", "(I)I"⟩
abbrev cX9_ifTold : ByteArray := prog_11_method_118_code
def yX9_ifTold : MethodName := ⟨RX9, "ifTold", "(IIIII)I"⟩
abbrev cX9_ifDropped : ByteArray := prog_11_method_119_code
def yX9_ifDropped : MethodName := ⟨RX9, "ifDropped", "(II)I"⟩
abbrev cX9_ifTurned : ByteArray := prog_11_method_120_code
def yX9_ifTurned : MethodName := ⟨RX9, "ifTurned", "(II)I"⟩
abbrev cX9_ifPinned : ByteArray := prog_11_method_121_code
def yX9_ifPinned : MethodName := ⟨RX9, "ifPinned", "(III)I"⟩
abbrev cX9_leastEnd : ByteArray := prog_11_method_122_code
def yX9_leastEnd : MethodName := ⟨RX9, "leastEnd", "()I"⟩
abbrev cX9_slowest : ByteArray := prog_11_method_123_code
def yX9_slowest : MethodName := ⟨RX9, "slowest", "()I"⟩
abbrev cX9_tightShare : ByteArray := prog_11_method_124_code
def yX9_tightShare : MethodName := ⟨RX9, "tightShare", "()F"⟩
abbrev cX9_meanRoom : ByteArray := prog_11_method_125_code
def yX9_meanRoom : MethodName := ⟨RX9, "meanRoom", "()D"⟩
abbrev cX9_says : ByteArray := prog_11_method_126_code
def yX9_says : MethodName := ⟨RX9, "says", "(I)V"⟩
abbrev cX9_saysWord : ByteArray := prog_11_method_127_code
def yX9_saysWord : MethodName := ⟨RX9, "saysWord", "(I)V"⟩
abbrev cX9_saysNumber : ByteArray := prog_11_method_128_code
def yX9_saysNumber : MethodName := ⟨RX9, "saysNumber", "(I)V"⟩
abbrev cX9_saysKey : ByteArray := prog_11_method_129_code
def yX9_saysKey : MethodName := ⟨RX9, "saysKey", "(II)V"⟩
abbrev cX9_saysEvent : ByteArray := prog_11_method_130_code
def yX9_saysEvent : MethodName := ⟨RX9, "saysEvent", "(I)V"⟩
abbrev cX9_toldByte : ByteArray := prog_11_method_131_code
def yX9_toldByte : MethodName := ⟨RX9, "toldByte", "(I)I"⟩
abbrev cX9_writesList : ByteArray := prog_11_method_132_code
def yX9_writesList : MethodName := ⟨RX9, "writesList", "()V"⟩
abbrev cX9_listLength : ByteArray := prog_11_method_133_code
def yX9_listLength : MethodName := ⟨RX9, "listLength", "()I"⟩
abbrev cX9_listByte : ByteArray := prog_11_method_134_code
def yX9_listByte : MethodName := ⟨RX9, "listByte", "(I)I"⟩
abbrev cX9_writesGap : ByteArray := prog_11_method_135_code
def yX9_writesGap : MethodName := ⟨RX9, "writesGap", "(I)V"⟩
abbrev cX9_writesSetup : ByteArray := prog_11_method_136_code
def yX9_writesSetup : MethodName := ⟨RX9, "writesSetup", "()V"⟩
abbrev cX9_setupLength : ByteArray := prog_11_method_137_code
def yX9_setupLength : MethodName := ⟨RX9, "setupLength", "()I"⟩
abbrev cX9_setupByte : ByteArray := prog_11_method_138_code
def yX9_setupByte : MethodName := ⟨RX9, "setupByte", "(I)I"⟩
def RJ9 : String := "java/lang/Math"
def TJ9 : u_T := fun k => match k with
  | _ => ("", "", "", false)
def tyJ9 : Nat → FieldType := fun k => match k with
  | _ => .int
abbrev wsJ90 : List Cond := u_ws RJ9 TJ9 0
theorem nmJ9 : ∀ a, a < 0 → ∀ b, b < 0 → a ≠ b → (TJ9 a).2.1 ≠ (TJ9 b).2.1 := by decide +kernel
theorem tyJ9_ok : ∀ k, k < 0 → parseFieldDescriptor (TJ9 k).2.2.1 = some (tyJ9 k) := by decide +kernel
abbrev cJ9_floorDiv_7cf53 : ByteArray := prog_12_method_47_code
def yJ9_floorDiv_7cf53 : MethodName := ⟨RJ9, "floorDiv", "(II)I"⟩
abbrev cJ9_floorMod_7cf53 : ByteArray := prog_12_method_50_code
def yJ9_floorMod_7cf53 : MethodName := ⟨RJ9, "floorMod", "(II)I"⟩
abbrev cJ9_abs_0f7a4 : ByteArray := prog_12_method_59_code
def yJ9_abs_0f7a4 : MethodName := ⟨RJ9, "abs", "(I)I"⟩
abbrev cJ9_max_7cf53 : ByteArray := prog_12_method_65_code
def yJ9_max_7cf53 : MethodName := ⟨RJ9, "max", "(II)I"⟩
abbrev cJ9_min_7cf53 : ByteArray := prog_12_method_69_code
def yJ9_min_7cf53 : MethodName := ⟨RJ9, "min", "(II)I"⟩
def RJ0 : String := "java/lang/String"
def TJ0 : u_T := fun k => match k with
  | _ => ("", "", "", false)
def tyJ0 : Nat → FieldType := fun k => match k with
  | _ => .int
abbrev wsJ00 : List Cond := u_ws RJ0 TJ0 0
theorem nmJ0 : ∀ a, a < 0 → ∀ b, b < 0 → a ≠ b → (TJ0 a).2.1 ≠ (TJ0 b).2.1 := by decide +kernel
theorem tyJ0_ok : ∀ k, k < 0 → parseFieldDescriptor (TJ0 k).2.2.1 = some (tyJ0 k) := by decide +kernel
abbrev cJ0_length_8abf5 : ByteArray := prog_13_method_54_code
def yJ0_length_8abf5 : MethodName := ⟨RJ0, "length", "()I"⟩
abbrev cJ0_charAt_5068e : ByteArray := prog_13_method_56_code
def yJ0_charAt_5068e : MethodName := ⟨RJ0, "charAt", "(I)C"⟩
abbrev cJ0_coder_7d493 : ByteArray := prog_13_method_152_code
def yJ0_coder_7d493 : MethodName := ⟨RJ0, "coder", "()B"⟩
abbrev cJ0_isLatin1_aae02 : ByteArray := prog_13_method_154_code
def yJ0_isLatin1_aae02 : MethodName := ⟨RJ0, "isLatin1", "()Z"⟩
abbrev cJ0_checkIndex_df160 : ByteArray := prog_13_method_155_code
def yJ0_checkIndex_df160 : MethodName := ⟨RJ0, "checkIndex", "(II)V"⟩
def RJ1 : String := "java/lang/StringLatin1"
def TJ1 : u_T := fun k => match k with
  | _ => ("", "", "", false)
def tyJ1 : Nat → FieldType := fun k => match k with
  | _ => .int
abbrev wsJ10 : List Cond := u_ws RJ1 TJ1 0
theorem nmJ1 : ∀ a, a < 0 → ∀ b, b < 0 → a ≠ b → (TJ1 a).2.1 ≠ (TJ1 b).2.1 := by decide +kernel
theorem tyJ1_ok : ∀ k, k < 0 → parseFieldDescriptor (TJ1 k).2.2.1 = some (tyJ1 k) := by decide +kernel
abbrev cJ1_charAt_3b067 : ByteArray := prog_14_method_2_code
def yJ1_charAt_3b067 : MethodName := ⟨RJ1, "charAt", "([BI)C"⟩
def RJ2 : String := "java/lang/StringUTF16"
def TJ2 : u_T := fun k => match k with
  | _ => ("", "", "", false)
def tyJ2 : Nat → FieldType := fun k => match k with
  | _ => .int
abbrev wsJ20 : List Cond := u_ws RJ2 TJ2 0
theorem nmJ2 : ∀ a, a < 0 → ∀ b, b < 0 → a ≠ b → (TJ2 a).2.1 ≠ (TJ2 b).2.1 := by decide +kernel
theorem tyJ2_ok : ∀ k, k < 0 → parseFieldDescriptor (TJ2 k).2.2.1 = some (tyJ2 k) := by decide +kernel
abbrev cJ2_getChar_3b067 : ByteArray := prog_15_method_5_code
def yJ2_getChar_3b067 : MethodName := ⟨RJ2, "getChar", "([BI)C"⟩
abbrev cJ2_length_9d52b : ByteArray := prog_15_method_6_code
def yJ2_length_9d52b : MethodName := ⟨RJ2, "length", "([B)I"⟩
abbrev cJ2_charAt_3b067 : ByteArray := prog_15_method_83_code
def yJ2_charAt_3b067 : MethodName := ⟨RJ2, "charAt", "([BI)C"⟩
abbrev cJ2_checkIndex_2214a : ByteArray := prog_15_method_91_code
def yJ2_checkIndex_2214a : MethodName := ⟨RJ2, "checkIndex", "(I[B)V"⟩
def RJ10 : String := "java/lang/System"
def TJ10 : u_T := fun k => match k with
  | _ => ("", "", "", false)
def tyJ10 : Nat → FieldType := fun k => match k with
  | _ => .int
abbrev wsJ100 : List Cond := u_ws RJ10 TJ10 0
theorem nmJ10 : ∀ a, a < 0 → ∀ b, b < 0 → a ≠ b → (TJ10 a).2.1 ≠ (TJ10 b).2.1 := by decide +kernel
theorem tyJ10_ok : ∀ k, k < 0 → parseFieldDescriptor (TJ10 k).2.2.1 = some (tyJ10 k) := by decide +kernel
def RJ3 : String := "jdk/internal/util/Preconditions"
def TJ3 : u_T := fun k => match k with
  | _ => ("", "", "", false)
def tyJ3 : Nat → FieldType := fun k => match k with
  | _ => .int
abbrev wsJ30 : List Cond := u_ws RJ3 TJ3 0
theorem nmJ3 : ∀ a, a < 0 → ∀ b, b < 0 → a ≠ b → (TJ3 a).2.1 ≠ (TJ3 b).2.1 := by decide +kernel
theorem tyJ3_ok : ∀ k, k < 0 → parseFieldDescriptor (TJ3 k).2.2.1 = some (tyJ3 k) := by decide +kernel
abbrev cJ3_checkIndex_8e157 : ByteArray := prog_17_method_11_code
def yJ3_checkIndex_8e157 : MethodName := ⟨RJ3, "checkIndex", "(IILjava/util/function/BiFunction;)I"⟩
def RL : String := "TimeGapsLaw"
abbrev cL_law : ByteArray := code
abbrev vwCl : List vw_C := [(RX0, TX0, 3), (RX1, TX1, 3), (RX2, TX2, 7), (RX3, TX3, 12), (RX4, TX4, 6), (RX5, TX5, 2), (RX6, TX6, 2), (RX7, TX7, 2), (RX8, TX8, 9), (RX9, TX9, 29)]
