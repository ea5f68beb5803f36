section
-- ===== PART A: goes FIRST, ahead of the names: the tables' words, and 'selects' of the private methods out of them =====
/-- a private method of a class that the tables say can be made, by its rows of tables_1 -/
def lw_okq (q : MethodName × Nat) : Prop := (q.1.cls ≠ "java/lang/invoke/MethodHandle" ∧ q.1.cls ≠ "java/lang/invoke/VarHandle") ∧ Cond.instantiable q.1.cls q.2 ∈ tables_1 ∧ Cond.privateMethod q.1 ∈ tables_1 ∧ Cond.instanceMethod q.1 ∈ tables_1
theorem lw_p0 : lw_okq (⟨"java/lang/Throwable", "fillInStackTrace", "(I)Ljava/lang/Throwable;"⟩, 6) := ⟨⟨by decide +kernel, by decide +kernel⟩, List.mem_of_getElem? (i := 177) (by decide +kernel), List.mem_of_getElem? (i := 175) (by decide +kernel), List.mem_of_getElem? (i := 176) (by decide +kernel)⟩
theorem lw_p1 : lw_okq (⟨"Spanjudge", "rowOf", "(II)LSpanjudge$Row;"⟩, 5) := ⟨⟨by decide +kernel, by decide +kernel⟩, List.mem_of_getElem? (i := 17) (by decide +kernel), List.mem_of_getElem? (i := 217) (by decide +kernel), List.mem_of_getElem? (i := 218) (by decide +kernel)⟩
theorem lw_p2 : lw_okq (⟨"Spanjudge", "spanOf", "(I)LSpanjudge$Span;"⟩, 5) := ⟨⟨by decide +kernel, by decide +kernel⟩, List.mem_of_getElem? (i := 17) (by decide +kernel), List.mem_of_getElem? (i := 335) (by decide +kernel), List.mem_of_getElem? (i := 336) (by decide +kernel)⟩
theorem lw_p3 : lw_okq (⟨"Spanjudge", "isFitting", "(ILSpanjudge$Span;)Z"⟩, 5) := ⟨⟨by decide +kernel, by decide +kernel⟩, List.mem_of_getElem? (i := 17) (by decide +kernel), List.mem_of_getElem? (i := 355) (by decide +kernel), List.mem_of_getElem? (i := 356) (by decide +kernel)⟩
theorem lw_p4 : lw_okq (⟨"Spanjudge", "fittingWord", "(ILSpanjudge$Span;)LSpanjudge$Word;"⟩, 5) := ⟨⟨by decide +kernel, by decide +kernel⟩, List.mem_of_getElem? (i := 17) (by decide +kernel), List.mem_of_getElem? (i := 370) (by decide +kernel), List.mem_of_getElem? (i := 371) (by decide +kernel)⟩
theorem lw_p5 : lw_okq (⟨"Spanjudge", "wordOf", "(ILSpanjudge$Span;)LSpanjudge$Word;"⟩, 5) := ⟨⟨by decide +kernel, by decide +kernel⟩, List.mem_of_getElem? (i := 17) (by decide +kernel), List.mem_of_getElem? (i := 375) (by decide +kernel), List.mem_of_getElem? (i := 376) (by decide +kernel)⟩
theorem lw_p6 : lw_okq (⟨"Spanjudge$Word", "size", "()I"⟩, 3) := ⟨⟨by decide +kernel, by decide +kernel⟩, List.mem_of_getElem? (i := 379) (by decide +kernel), List.mem_of_getElem? (i := 401) (by decide +kernel), List.mem_of_getElem? (i := 402) (by decide +kernel)⟩
theorem lw_p7 : lw_okq (⟨"Spanjudge$Word", "at", "(I)J"⟩, 3) := ⟨⟨by decide +kernel, by decide +kernel⟩, List.mem_of_getElem? (i := 379) (by decide +kernel), List.mem_of_getElem? (i := 411) (by decide +kernel), List.mem_of_getElem? (i := 412) (by decide +kernel)⟩
theorem lw_p8 : lw_okq (⟨"Spanjudge", "putIntoList", "(IZI)V"⟩, 5) := ⟨⟨by decide +kernel, by decide +kernel⟩, List.mem_of_getElem? (i := 17) (by decide +kernel), List.mem_of_getElem? (i := 464) (by decide +kernel), List.mem_of_getElem? (i := 465) (by decide +kernel)⟩
theorem lw_p9 : lw_okq (⟨"Spanjudge$Endings", "take", "(LSpanjudge$Row;Z)V"⟩, 8) := ⟨⟨by decide +kernel, by decide +kernel⟩, List.mem_of_getElem? (i := 29) (by decide +kernel), List.mem_of_getElem? (i := 482) (by decide +kernel), List.mem_of_getElem? (i := 483) (by decide +kernel)⟩
theorem lw_p10 : lw_okq (⟨"Spanjudge$Endings", "putInOrder", "()V"⟩, 8) := ⟨⟨by decide +kernel, by decide +kernel⟩, List.mem_of_getElem? (i := 29) (by decide +kernel), List.mem_of_getElem? (i := 486) (by decide +kernel), List.mem_of_getElem? (i := 487) (by decide +kernel)⟩
theorem lw_p11 : lw_okq (⟨"Spanjudge$Endings", "compareParts", "(IIII)I"⟩, 8) := ⟨⟨by decide +kernel, by decide +kernel⟩, List.mem_of_getElem? (i := 29) (by decide +kernel), List.mem_of_getElem? (i := 490) (by decide +kernel), List.mem_of_getElem? (i := 491) (by decide +kernel)⟩
theorem lw_p12 : lw_okq (⟨"Spanjudge$Endings", "countWords", "()I"⟩, 8) := ⟨⟨by decide +kernel, by decide +kernel⟩, List.mem_of_getElem? (i := 29) (by decide +kernel), List.mem_of_getElem? (i := 502) (by decide +kernel), List.mem_of_getElem? (i := 503) (by decide +kernel)⟩
theorem lw_p13 : lw_okq (⟨"Spanjudge$Endings", "mostAlikeAhead", "(I)I"⟩, 8) := ⟨⟨by decide +kernel, by decide +kernel⟩, List.mem_of_getElem? (i := 29) (by decide +kernel), List.mem_of_getElem? (i := 506) (by decide +kernel), List.mem_of_getElem? (i := 507) (by decide +kernel)⟩
theorem lw_p14 : lw_okq (⟨"Spanjudge$Endings", "longestTwice", "()I"⟩, 8) := ⟨⟨by decide +kernel, by decide +kernel⟩, List.mem_of_getElem? (i := 29) (by decide +kernel), List.mem_of_getElem? (i := 520) (by decide +kernel), List.mem_of_getElem? (i := 521) (by decide +kernel)⟩
theorem lw_p15 : lw_okq (⟨"Spanjudge$Row", "hasPeriod", "(I)Z"⟩, 2) := ⟨⟨by decide +kernel, by decide +kernel⟩, List.mem_of_getElem? (i := 71) (by decide +kernel), List.mem_of_getElem? (i := 539) (by decide +kernel), List.mem_of_getElem? (i := 540) (by decide +kernel)⟩
def lw_privs_1 : List (MethodName × Nat) := [(⟨"java/lang/Throwable", "fillInStackTrace", "(I)Ljava/lang/Throwable;"⟩, 6), (⟨"Spanjudge", "rowOf", "(II)LSpanjudge$Row;"⟩, 5), (⟨"Spanjudge", "spanOf", "(I)LSpanjudge$Span;"⟩, 5), (⟨"Spanjudge", "isFitting", "(ILSpanjudge$Span;)Z"⟩, 5), (⟨"Spanjudge", "fittingWord", "(ILSpanjudge$Span;)LSpanjudge$Word;"⟩, 5), (⟨"Spanjudge", "wordOf", "(ILSpanjudge$Span;)LSpanjudge$Word;"⟩, 5), (⟨"Spanjudge$Word", "size", "()I"⟩, 3), (⟨"Spanjudge$Word", "at", "(I)J"⟩, 3), (⟨"Spanjudge", "putIntoList", "(IZI)V"⟩, 5), (⟨"Spanjudge$Endings", "take", "(LSpanjudge$Row;Z)V"⟩, 8), (⟨"Spanjudge$Endings", "putInOrder", "()V"⟩, 8), (⟨"Spanjudge$Endings", "compareParts", "(IIII)I"⟩, 8), (⟨"Spanjudge$Endings", "countWords", "()I"⟩, 8), (⟨"Spanjudge$Endings", "mostAlikeAhead", "(I)I"⟩, 8), (⟨"Spanjudge$Endings", "longestTwice", "()I"⟩, 8), (⟨"Spanjudge$Row", "hasPeriod", "(I)Z"⟩, 2)]
theorem lw_r1 : ∀ q ∈ lw_privs_1, lw_okq q := List.forall_mem_cons.mpr ⟨lw_p0, List.forall_mem_cons.mpr ⟨lw_p1, List.forall_mem_cons.mpr ⟨lw_p2, List.forall_mem_cons.mpr ⟨lw_p3, List.forall_mem_cons.mpr ⟨lw_p4, List.forall_mem_cons.mpr ⟨lw_p5, List.forall_mem_cons.mpr ⟨lw_p6, List.forall_mem_cons.mpr ⟨lw_p7, List.forall_mem_cons.mpr ⟨lw_p8, List.forall_mem_cons.mpr ⟨lw_p9, List.forall_mem_cons.mpr ⟨lw_p10, List.forall_mem_cons.mpr ⟨lw_p11, List.forall_mem_cons.mpr ⟨lw_p12, List.forall_mem_cons.mpr ⟨lw_p13, List.forall_mem_cons.mpr ⟨lw_p14, List.forall_mem_cons.mpr ⟨lw_p15, fun _ h => absurd h List.not_mem_nil⟩⟩⟩⟩⟩⟩⟩⟩⟩⟩⟩⟩⟩⟩⟩⟩
theorem lw_p16 : lw_okq (⟨"Spanjudge$Row", "compareRotations", "(IIZ)I"⟩, 2) := ⟨⟨by decide +kernel, by decide +kernel⟩, List.mem_of_getElem? (i := 71) (by decide +kernel), List.mem_of_getElem? (i := 564) (by decide +kernel), List.mem_of_getElem? (i := 565) (by decide +kernel)⟩
theorem lw_p17 : lw_okq (⟨"Spanjudge$Row", "atRound", "(I)J"⟩, 2) := ⟨⟨by decide +kernel, by decide +kernel⟩, List.mem_of_getElem? (i := 71) (by decide +kernel), List.mem_of_getElem? (i := 568) (by decide +kernel), List.mem_of_getElem? (i := 569) (by decide +kernel)⟩
theorem lw_p18 : lw_okq (⟨"Spanjudge$Endings", "split", "()V"⟩, 8) := ⟨⟨by decide +kernel, by decide +kernel⟩, List.mem_of_getElem? (i := 29) (by decide +kernel), List.mem_of_getElem? (i := 580) (by decide +kernel), List.mem_of_getElem? (i := 581) (by decide +kernel)⟩
theorem lw_p19 : lw_okq (⟨"Spanjudge", "fittingAhead", "(II)I"⟩, 5) := ⟨⟨by decide +kernel, by decide +kernel⟩, List.mem_of_getElem? (i := 17) (by decide +kernel), List.mem_of_getElem? (i := 598) (by decide +kernel), List.mem_of_getElem? (i := 599) (by decide +kernel)⟩
theorem lw_p20 : lw_okq (⟨"Spanjudge", "sameAhead", "(II)I"⟩, 5) := ⟨⟨by decide +kernel, by decide +kernel⟩, List.mem_of_getElem? (i := 17) (by decide +kernel), List.mem_of_getElem? (i := 602) (by decide +kernel), List.mem_of_getElem? (i := 603) (by decide +kernel)⟩
theorem lw_p21 : lw_okq (⟨"Spanjudge$Word", "changedBy", "(IC)LSpanjudge$Word;"⟩, 3) := ⟨⟨by decide +kernel, by decide +kernel⟩, List.mem_of_getElem? (i := 379) (by decide +kernel), List.mem_of_getElem? (i := 630) (by decide +kernel), List.mem_of_getElem? (i := 631) (by decide +kernel)⟩
theorem lw_p22 : lw_okq (⟨"Spanjudge$Endings", "factorEnd", "(I)I"⟩, 8) := ⟨⟨by decide +kernel, by decide +kernel⟩, List.mem_of_getElem? (i := 29) (by decide +kernel), List.mem_of_getElem? (i := 688) (by decide +kernel), List.mem_of_getElem? (i := 689) (by decide +kernel)⟩
theorem lw_p23 : lw_okq (⟨"Spanjudge$Endings", "isLyndon", "(II)Z"⟩, 8) := ⟨⟨by decide +kernel, by decide +kernel⟩, List.mem_of_getElem? (i := 29) (by decide +kernel), List.mem_of_getElem? (i := 692) (by decide +kernel), List.mem_of_getElem? (i := 693) (by decide +kernel)⟩
theorem lw_p24 : lw_okq (⟨"Spanjudge$Endings", "countWays", "()I"⟩, 8) := ⟨⟨by decide +kernel, by decide +kernel⟩, List.mem_of_getElem? (i := 29) (by decide +kernel), List.mem_of_getElem? (i := 696) (by decide +kernel), List.mem_of_getElem? (i := 697) (by decide +kernel)⟩
theorem lw_p25 : lw_okq (⟨"Spanjudge$Endings", "waysBehind", "(II)I"⟩, 8) := ⟨⟨by decide +kernel, by decide +kernel⟩, List.mem_of_getElem? (i := 29) (by decide +kernel), List.mem_of_getElem? (i := 701) (by decide +kernel), List.mem_of_getElem? (i := 702) (by decide +kernel)⟩
theorem lw_p26 : lw_okq (⟨"SpanjudgeModel", "size", "(CI)I"⟩, 8) := ⟨⟨by decide +kernel, by decide +kernel⟩, List.mem_of_getElem? (i := 705) (by decide +kernel), List.mem_of_getElem? (i := 766) (by decide +kernel), List.mem_of_getElem? (i := 767) (by decide +kernel)⟩
theorem lw_p27 : lw_okq (⟨"SpanjudgeModel", "fails", "(I)Z"⟩, 8) := ⟨⟨by decide +kernel, by decide +kernel⟩, List.mem_of_getElem? (i := 705) (by decide +kernel), List.mem_of_getElem? (i := 770) (by decide +kernel), List.mem_of_getElem? (i := 771) (by decide +kernel)⟩
theorem lw_p28 : lw_okq (⟨"SpanjudgeModel", "at", "(CII)I"⟩, 8) := ⟨⟨by decide +kernel, by decide +kernel⟩, List.mem_of_getElem? (i := 705) (by decide +kernel), List.mem_of_getElem? (i := 774) (by decide +kernel), List.mem_of_getElem? (i := 775) (by decide +kernel)⟩
theorem lw_p29 : lw_okq (⟨"SpanjudgeModel", "resize", "(CII)V"⟩, 8) := ⟨⟨by decide +kernel, by decide +kernel⟩, List.mem_of_getElem? (i := 705) (by decide +kernel), List.mem_of_getElem? (i := 778) (by decide +kernel), List.mem_of_getElem? (i := 779) (by decide +kernel)⟩
theorem lw_p30 : lw_okq (⟨"SpanjudgeModel", "noRow", "(CI)I"⟩, 8) := ⟨⟨by decide +kernel, by decide +kernel⟩, List.mem_of_getElem? (i := 705) (by decide +kernel), List.mem_of_getElem? (i := 794) (by decide +kernel), List.mem_of_getElem? (i := 795) (by decide +kernel)⟩
theorem lw_p31 : lw_okq (⟨"SpanjudgeModel", "isFit", "(CI)Z"⟩, 8) := ⟨⟨by decide +kernel, by decide +kernel⟩, List.mem_of_getElem? (i := 705) (by decide +kernel), List.mem_of_getElem? (i := 844) (by decide +kernel), List.mem_of_getElem? (i := 845) (by decide +kernel)⟩
def lw_privs_2 : List (MethodName × Nat) := [(⟨"Spanjudge$Row", "compareRotations", "(IIZ)I"⟩, 2), (⟨"Spanjudge$Row", "atRound", "(I)J"⟩, 2), (⟨"Spanjudge$Endings", "split", "()V"⟩, 8), (⟨"Spanjudge", "fittingAhead", "(II)I"⟩, 5), (⟨"Spanjudge", "sameAhead", "(II)I"⟩, 5), (⟨"Spanjudge$Word", "changedBy", "(IC)LSpanjudge$Word;"⟩, 3), (⟨"Spanjudge$Endings", "factorEnd", "(I)I"⟩, 8), (⟨"Spanjudge$Endings", "isLyndon", "(II)Z"⟩, 8), (⟨"Spanjudge$Endings", "countWays", "()I"⟩, 8), (⟨"Spanjudge$Endings", "waysBehind", "(II)I"⟩, 8), (⟨"SpanjudgeModel", "size", "(CI)I"⟩, 8), (⟨"SpanjudgeModel", "fails", "(I)Z"⟩, 8), (⟨"SpanjudgeModel", "at", "(CII)I"⟩, 8), (⟨"SpanjudgeModel", "resize", "(CII)V"⟩, 8), (⟨"SpanjudgeModel", "noRow", "(CI)I"⟩, 8), (⟨"SpanjudgeModel", "isFit", "(CI)Z"⟩, 8)]
theorem lw_r2 : ∀ q ∈ lw_privs_2, lw_okq q := List.forall_mem_cons.mpr ⟨lw_p16, List.forall_mem_cons.mpr ⟨lw_p17, List.forall_mem_cons.mpr ⟨lw_p18, List.forall_mem_cons.mpr ⟨lw_p19, List.forall_mem_cons.mpr ⟨lw_p20, List.forall_mem_cons.mpr ⟨lw_p21, List.forall_mem_cons.mpr ⟨lw_p22, List.forall_mem_cons.mpr ⟨lw_p23, List.forall_mem_cons.mpr ⟨lw_p24, List.forall_mem_cons.mpr ⟨lw_p25, List.forall_mem_cons.mpr ⟨lw_p26, List.forall_mem_cons.mpr ⟨lw_p27, List.forall_mem_cons.mpr ⟨lw_p28, List.forall_mem_cons.mpr ⟨lw_p29, List.forall_mem_cons.mpr ⟨lw_p30, List.forall_mem_cons.mpr ⟨lw_p31, fun _ h => absurd h List.not_mem_nil⟩⟩⟩⟩⟩⟩⟩⟩⟩⟩⟩⟩⟩⟩⟩⟩
theorem lw_p32 : lw_okq (⟨"SpanjudgeModel", "noWords", "(ZCII)I"⟩, 8) := ⟨⟨by decide +kernel, by decide +kernel⟩, List.mem_of_getElem? (i := 705) (by decide +kernel), List.mem_of_getElem? (i := 855) (by decide +kernel), List.mem_of_getElem? (i := 856) (by decide +kernel)⟩
theorem lw_p33 : lw_okq (⟨"SpanjudgeModel", "many", "(I)I"⟩, 8) := ⟨⟨by decide +kernel, by decide +kernel⟩, List.mem_of_getElem? (i := 705) (by decide +kernel), List.mem_of_getElem? (i := 859) (by decide +kernel), List.mem_of_getElem? (i := 860) (by decide +kernel)⟩
theorem lw_p34 : lw_okq (⟨"SpanjudgeModel", "answer", "(CCIIIIII)I"⟩, 8) := ⟨⟨by decide +kernel, by decide +kernel⟩, List.mem_of_getElem? (i := 705) (by decide +kernel), List.mem_of_getElem? (i := 863) (by decide +kernel), List.mem_of_getElem? (i := 864) (by decide +kernel)⟩
theorem lw_p35 : lw_okq (⟨"SpanjudgeModel", "compared", "(CCIIIIII)I"⟩, 8) := ⟨⟨by decide +kernel, by decide +kernel⟩, List.mem_of_getElem? (i := 705) (by decide +kernel), List.mem_of_getElem? (i := 867) (by decide +kernel), List.mem_of_getElem? (i := 868) (by decide +kernel)⟩
theorem lw_p36 : lw_okq (⟨"SpanjudgeModel", "alike", "(CIIIIII)I"⟩, 8) := ⟨⟨by decide +kernel, by decide +kernel⟩, List.mem_of_getElem? (i := 705) (by decide +kernel), List.mem_of_getElem? (i := 871) (by decide +kernel), List.mem_of_getElem? (i := 872) (by decide +kernel)⟩
theorem lw_p37 : lw_okq (⟨"SpanjudgeModel", "spans", "(CCII)I"⟩, 8) := ⟨⟨by decide +kernel, by decide +kernel⟩, List.mem_of_getElem? (i := 705) (by decide +kernel), List.mem_of_getElem? (i := 897) (by decide +kernel), List.mem_of_getElem? (i := 898) (by decide +kernel)⟩
theorem lw_p38 : lw_okq (⟨"SpanjudgeModel", "noOrder", "(CCI)I"⟩, 8) := ⟨⟨by decide +kernel, by decide +kernel⟩, List.mem_of_getElem? (i := 705) (by decide +kernel), List.mem_of_getElem? (i := 913) (by decide +kernel), List.mem_of_getElem? (i := 914) (by decide +kernel)⟩
theorem lw_p39 : lw_okq (⟨"SpanjudgeModel", "endings", "(CCIIII)I"⟩, 8) := ⟨⟨by decide +kernel, by decide +kernel⟩, List.mem_of_getElem? (i := 705) (by decide +kernel), List.mem_of_getElem? (i := 917) (by decide +kernel), List.mem_of_getElem? (i := 918) (by decide +kernel)⟩
theorem lw_p40 : lw_okq (⟨"SpanjudgeModel", "is", "(CII)Z"⟩, 8) := ⟨⟨by decide +kernel, by decide +kernel⟩, List.mem_of_getElem? (i := 705) (by decide +kernel), List.mem_of_getElem? (i := 937) (by decide +kernel), List.mem_of_getElem? (i := 938) (by decide +kernel)⟩
theorem lw_p41 : lw_okq (⟨"SpanjudgeModel", "isTurnedLess", "(CCIII)Z"⟩, 8) := ⟨⟨by decide +kernel, by decide +kernel⟩, List.mem_of_getElem? (i := 705) (by decide +kernel), List.mem_of_getElem? (i := 953) (by decide +kernel), List.mem_of_getElem? (i := 954) (by decide +kernel)⟩
theorem lw_p42 : lw_okq (⟨"SpanjudgeModel", "words", "(CCI)I"⟩, 8) := ⟨⟨by decide +kernel, by decide +kernel⟩, List.mem_of_getElem? (i := 705) (by decide +kernel), List.mem_of_getElem? (i := 961) (by decide +kernel), List.mem_of_getElem? (i := 962) (by decide +kernel)⟩
theorem lw_p43 : lw_okq (⟨"SpanjudgeModel", "lastOf", "(CCII)I"⟩, 8) := ⟨⟨by decide +kernel, by decide +kernel⟩, List.mem_of_getElem? (i := 705) (by decide +kernel), List.mem_of_getElem? (i := 965) (by decide +kernel), List.mem_of_getElem? (i := 966) (by decide +kernel)⟩
def lw_privs_3 : List (MethodName × Nat) := [(⟨"SpanjudgeModel", "noWords", "(ZCII)I"⟩, 8), (⟨"SpanjudgeModel", "many", "(I)I"⟩, 8), (⟨"SpanjudgeModel", "answer", "(CCIIIIII)I"⟩, 8), (⟨"SpanjudgeModel", "compared", "(CCIIIIII)I"⟩, 8), (⟨"SpanjudgeModel", "alike", "(CIIIIII)I"⟩, 8), (⟨"SpanjudgeModel", "spans", "(CCII)I"⟩, 8), (⟨"SpanjudgeModel", "noOrder", "(CCI)I"⟩, 8), (⟨"SpanjudgeModel", "endings", "(CCIIII)I"⟩, 8), (⟨"SpanjudgeModel", "is", "(CII)Z"⟩, 8), (⟨"SpanjudgeModel", "isTurnedLess", "(CCIII)Z"⟩, 8), (⟨"SpanjudgeModel", "words", "(CCI)I"⟩, 8), (⟨"SpanjudgeModel", "lastOf", "(CCII)I"⟩, 8)]
theorem lw_r3 : ∀ q ∈ lw_privs_3, lw_okq q := List.forall_mem_cons.mpr ⟨lw_p32, List.forall_mem_cons.mpr ⟨lw_p33, List.forall_mem_cons.mpr ⟨lw_p34, List.forall_mem_cons.mpr ⟨lw_p35, List.forall_mem_cons.mpr ⟨lw_p36, List.forall_mem_cons.mpr ⟨lw_p37, List.forall_mem_cons.mpr ⟨lw_p38, List.forall_mem_cons.mpr ⟨lw_p39, List.forall_mem_cons.mpr ⟨lw_p40, List.forall_mem_cons.mpr ⟨lw_p41, List.forall_mem_cons.mpr ⟨lw_p42, List.forall_mem_cons.mpr ⟨lw_p43, fun _ h => absurd h List.not_mem_nil⟩⟩⟩⟩⟩⟩⟩⟩⟩⟩⟩⟩
def lw_privs : List (MethodName × Nat) := lw_privs_1 ++ (lw_privs_2 ++ (lw_privs_3))
def lw_tbl : List Cond := k2_sels lw_privs ++ tables_1
theorem lw_privs_ok : ∀ q ∈ lw_privs, lw_okq q := by
  show ∀ q ∈ lw_privs_1 ++ (lw_privs_2 ++ (lw_privs_3)), lw_okq q
  exact List.forall_mem_append.mpr ⟨lw_r1, List.forall_mem_append.mpr ⟨lw_r2, lw_r3⟩⟩
/-- the streams that the claim lets the run draw from -/
abbrev lw_cs : List Choice := [Jvm.Choice.named "NaN.bits"]
theorem lw_bits : nanBits ∈ lw_cs := by first | decide | exact List.mem_cons_self | simp [lw_cs, nanBits]
end
section
/-! ===== BEGIN words of one list among another's, by their places ===== -/
theorem goodIn_r {big : List Cond} (ws : List Cond) (ps : List Nat) (hp : ws = ps.filterMap (fun i => big[i]?)) (h : ws.all goodWord = true) : GoodIn big ws := by
  intro w hw
  have h1 := List.all_eq_true.mp h w hw
  rw [hp] at hw
  obtain ⟨i, -, hi⟩ := List.mem_filterMap.mp hw
  have hm : w ∈ big := by first | exact List.mem_of_getElem? hi | exact List.getElem?_mem hi
  exact ⟨hm, good_of_word h1⟩
theorem goodIn_app {big a b : List Cond} (ha : GoodIn big a) (hb : GoodIn big b) : GoodIn big (a ++ b) := fun w h => (List.mem_append.mp h).elim (ha w) (hb w)
theorem goodIn_ca {big a b : List Cond} {c : Cond} (ha : GoodIn big (c :: a)) (hb : GoodIn big b) : GoodIn big (c :: (a ++ b)) := fun w h => (List.mem_cons.mp h).elim (fun e => ha w (List.mem_cons.mpr (Or.inl e))) (fun h => (List.mem_append.mp h).elim (fun h => ha w (List.mem_cons.mpr (Or.inr h))) (hb w))
theorem goodIn_sub {big ws : List Cond} (hm : ∀ w ∈ ws, w ∈ big) (h : ws.all goodWord = true) : GoodIn big ws := fun w hw => ⟨hm w hw, good_of_word (List.all_eq_true.mp h w hw)⟩
/-! ===== END ===== -/

/-- the word of arrays over arrays, which the printed row of new T[n][m] asks for -/
def va_AOA (ty : FieldType) (U : State) : Prop := (Cond.arrayOver (.array ty)).before #[] U = true
theorem va_AOA.of {ty : FieldType} {A : Array Value} {U : State} (h : (Cond.arrayOver (.array ty)).before A U = true) : va_AOA ty U := h
theorem va_AOA.use {ty : FieldType} {A : Array Value} {U : State} (h : va_AOA ty U) : (Cond.arrayOver (.array ty)).before A U = true := h
theorem va_AOA.moved {ty : FieldType} {u U : State} (hvm : u.vm.Alike U.vm) (h : va_AOA ty u) : va_AOA ty U := Jvm.Stand.arrayOver_alikeB hvm h
/-! ===== BEGIN new T[n][m]: the outer array a place, the inner ones among the pooled ===== -/
/-- f, but v at every address of l -/
def vr_up {α : Type} (f : Nat → α) (l : List Nat) (v : α) : Nat → α := fun a => if a ∈ l then v else f a
theorem vr_up_in {α : Type} {f : Nat → α} {l : List Nat} {v : α} {a : Nat} (h : a ∈ l) : vr_up f l v a = v := if_pos h
theorem vr_up_ne {α : Type} {f : Nat → α} {l : List Nat} {v : α} {a : Nat} (h : a ∉ l) : vr_up f l v a = f a := if_neg h
theorem vr_rows {L l : List Nat} {f : Nat → va_E} {e : va_E} (h : ∀ a, a ∈ l → a ∉ L) : va_pl L f ++ l.map (fun a => (a, e)) = va_pl (L ++ l) (vr_up f l e) := by
  unfold va_pl
  rw [List.map_append]
  congr 1
  · apply List.map_congr_left
    intro a ha
    rw [vr_up_ne (fun q => h a q ha)]
  · apply List.map_congr_left
    intro a ha
    rw [vr_up_in ha]
theorem vr_lay {X rows : va_W} {x : Nat × va_E} {pl : va_W} {D : va_G} {cl : List vw_C} {H : Heap} (hP : va_P D cl (((X ++ pl) ++ [x]) ++ rows) H) : va_P D cl ((X ++ [x]) ++ (pl ++ rows)) H := by
  rw [List.append_assoc (X ++ pl)] at hP
  have h := va_P.swap hP
  rw [← List.append_assoc X] at h
  have h2 := va_P.swap h
  rw [List.append_assoc (X ++ [x])] at h2
  exact h2
theorem vr_layD {X rows : va_W} {x : Nat × va_E} {pl : va_W} {A : Nat → Prop} (hD : va_D A (((X ++ pl) ++ [x]) ++ rows)) : va_D A ((X ++ [x]) ++ (pl ++ rows)) := by
  rw [List.append_assoc (X ++ pl)] at hD
  have h := va_D.swap hD
  rw [← List.append_assoc X] at h
  have h2 := va_D.swap h
  rw [List.append_assoc (X ++ [x])] at h2
  exact h2
theorem vr_outer (c : ClassId) (N h0 : Nat) : ∀ i : Nat, Jvm.Free.Multi.outerC c N h0 i = arrV c N (fun j => va_rf (if j < i then some (h0 + 1 + j) else none))
  | 0 => by
    show ({ cls := c, slots := Array.replicate N .null, vm := .none } : Cell) = _
    rw [arrV_new]
    refine congrArg (arrV c N) (funext fun j => ?_)
    simp [va_rf]
  | i + 1 => by
    show (Jvm.Free.Multi.outerC c N h0 i).setSlot i (.ref (h0 + 1 + i)) = _
    rw [vr_outer c N h0 i, arrV_store]
    refine congrArg (arrV c N) (funext fun j => ?_)
    by_cases e : j = i
    · subst e
      simp [updV, va_rf]
    · by_cases h : j < i
      · simp [updV, e, h, Nat.lt_succ_of_lt h]
      · simp [updV, e, h, show ¬ j < i + 1 by omega]
section VGM
variable {p : Program} {l : Launch} {e : Env} {R : Room} {s : State} {m : MethodId} {args : Array Value} {below : List Frame} {meth : Method} {c : Code} {H : Heap} {locs : List Loc} {cells slots : Nat} {Q : State → Prop}
variable {cc : ByteArray} {pc : Nat} {ls : Array Slot} {rest : List Value} {D : va_G} {cl : List vw_C} {A : Nat → Prop} {a : Nat} {tys : List (ClassId × FieldType)} {ws : va_W} {H0 : Heap}
theorem va_mna {X : va_W} {L : List Nat} {f : Nat → va_E} {cc : ByteArray} (hexec : p.tables.exec = Jvm.exec) (hb : c.code = cc) {own : String} {index : Nat} {ty : FieldType} {cy : ClassId} (hown : s.vm.findClass own = some m.cls) (hclink : (Cond.classLink own index ("[" ++ (FieldType.array ty).toString)).before args s = true) (hover : va_AOA ty s) (harr : (Cond.arrayClass ty).before args s = true) (hcy : s.vm.findClass (FieldType.array ty).toString = some cy)
    (hK : va_K D cl tys s) (hP : va_P D cl (X ++ va_pl L f) H) (hD : va_D A (X ++ va_pl L f)) (hS : va_S A H0 H locs) (hA : ∀ q, H0.size ≤ q → A q) {n k : Int32} {N' K' : Nat} {z : vp_A} (hn : ¬ n < 0) (hk : ¬ k < 0) (hN : n.toNatClampNeg = N') (hM : k.toNatClampNeg = K')
    (hb1 : N' * 4 ≤ 536870912) (hb2 : K' * componentBytes ty ≤ 536870912) (hb3 : K' ≤ 536870912) (hdf : fits ty (defaultValue ty) = true) (hdd : (defaultValue ty).isDefault = true) (hcells : cells + (1 + N') ≤ R.cells) (hslots : slots + (N' + N' * K') ≤ R.slots) (hz : ∀ c : ClassId, Jvm.Free.Multi.innerC c K' (defaultValue ty) = vp_cell c z) (hdg : decode cc pc = .ok (.multianewarray index 2, 4))
    (kk : ∀ (q : Nat) (r : Nat → Nat) (cA : ClassId) (H1 : Heap), (∀ i j : Nat, i < N' → j < N' → r i = r j → i = j) → (∀ i : Nat, i < N' → r i ∉ L) → va_K D cl (tys ++ [(cA, .array ty)]) s →
      va_P D cl ((X ++ [(q, .inl (cA, N', .inr (.inr (.inr (.inr (fun i => if i < N' then some (r i) else none))))))]) ++ va_pl (L ++ (List.range N').map r) (vr_up f ((List.range N').map r) (.inl (cy, z)))) H1 → va_D A ((X ++ [(q, .inl (cA, N', .inr (.inr (.inr (.inr (fun i => if i < N' then some (r i) else none))))))]) ++ va_pl (L ++ (List.range N').map r) (vr_up f ((List.range N').map r) (.inl (cy, z)))) → va_S A H0 H1 locs →
      W p l e R s m args below meth c H1 locs (cells + 1 + N') (slots + N' + N' * K') Q (F0 m (pc + 4) ls (.ref q :: rest))) : W p l e R s m args below meth c H locs cells slots Q (F0 m pc ls (.int k :: .int n :: rest)) := by
  subst hN
  subst hM
  intro T hT Xs
  obtain ⟨vm₁, cA, comp, -, fA, fC, hO, -, X', step⟩ := Xs.multianewarray2F hexec hown hclink (va_AOA.use hover) harr (g := F0 m pc ls (.int k :: .int n :: rest)) rfl (by rw [hb]; exact hdg) rfl hn hk hb1 hb2 hb3 hdf hdd hcells hslots
  have ec : some cy = some comp := hcy.symm.trans fC
  cases ec
  generalize hF : Jvm.Free.Multi.fill (T.setVm vm₁) cA cy n.toNatClampNeg k.toNatClampNeg (defaultValue ty) n.toNatClampNeg = F at X' step
  have hTh : (T.setVm vm₁).heap = H := hT
  obtain ⟨f1, f2, -, -⟩ := Jvm.Free.Multi.fill_facts (T.setVm vm₁) cA cy n.toNatClampNeg k.toNatClampNeg (defaultValue ty) n.toNatClampNeg
  rw [hF, hTh] at f1 f2
  have hold : ∀ x : Nat, x < H.size → F.heap[x]? = H[x]? := fun x hx => by
    have := Jvm.Free.Multi.fill_old (T.setVm vm₁) cA cy n.toNatClampNeg k.toNatClampNeg (defaultValue ty) (a := x) (by rw [hTh]; exact hx) n.toNatClampNeg
    rw [hF, hTh] at this
    exact this
  have hrow : ∀ j : Nat, j < n.toNatClampNeg → F.heap[H.size + 1 + j]? = some (vp_cell cy z) := fun j hj => by
    have := Jvm.Free.Multi.fill_inner (T.setVm vm₁) cA cy n.toNatClampNeg k.toNatClampNeg (defaultValue ty) n.toNatClampNeg j hj
    rw [hF, hTh, hz] at this
    exact this
  have hout : Jvm.Free.Multi.outerC cA n.toNatClampNeg H.size n.toNatClampNeg = vp_cell cA (n.toNatClampNeg, .inr (.inr (.inr (.inr (fun i => if i < n.toNatClampNeg then some (H.size + 1 + i) else none))))) := by
    rw [vp_cell_q]
    exact vr_outer cA n.toNatClampNeg H.size n.toNatClampNeg
  rw [hout] at f2
  have hlt : ∀ a, a ∈ L → a < H.size := fun a ha => by
    obtain ⟨k9, hk9⟩ := va_pl_get (X := X) (f := f) ha
    exact (hP k9 _ hk9).lt
  have hnl : ∀ i : Nat, i < n.toNatClampNeg → H.size + 1 + i ∉ L := fun i _ h => by
    have := hlt _ h
    omega
  have hnm : ∀ a, a ∈ (List.range n.toNatClampNeg).map (fun i => H.size + 1 + i) → a ∉ L := fun a ha h => by
    obtain ⟨i, -, rfl⟩ := List.mem_map.mp ha
    have := hlt _ h
    omega
  have hP0 : va_P D cl (X ++ va_pl L f) F.heap := hP.kept (fun k9 x hx => hold x.1 ((hP k9 x hx).lt))
  have hP1 : va_P D cl ((X ++ va_pl L f) ++ [(H.size, .inl (cA, n.toNatClampNeg, .inr (.inr (.inr (.inr (fun i => if i < n.toNatClampNeg then some (H.size + 1 + i) else none))))))]) F.heap := hP0.app (fun k9 x hx => by
    have h0 : k9 < 1 := (List.getElem?_eq_some_iff.mp hx).1
    rw [show k9 = 0 by omega] at hx
    cases hx
    exact f2)
  have hP2 : va_P D cl (((X ++ va_pl L f) ++ [(H.size, .inl (cA, n.toNatClampNeg, .inr (.inr (.inr (.inr (fun i => if i < n.toNatClampNeg then some (H.size + 1 + i) else none))))))]) ++ ((List.range n.toNatClampNeg).map (fun i => H.size + 1 + i)).map (fun a => (a, .inl (cy, z)))) F.heap := hP1.app (fun k9 x hx => by
    obtain ⟨a, ha, rfl⟩ := List.mem_map.mp (List.mem_of_getElem? hx)
    obtain ⟨i, hi, rfl⟩ := List.mem_map.mp ha
    exact hrow i (List.mem_range.mp hi))
  have hD2 : va_D A (((X ++ va_pl L f) ++ [(H.size, .inl (cA, n.toNatClampNeg, .inr (.inr (.inr (.inr (fun i => if i < n.toNatClampNeg then some (H.size + 1 + i) else none))))))]) ++ ((List.range n.toNatClampNeg).map (fun i => H.size + 1 + i)).map (fun a => (a, .inl (cy, z)))) := by
    have hD1 := hD.push (e := .inl (cA, n.toNatClampNeg, .inr (.inr (.inr (.inr (fun i => if i < n.toNatClampNeg then some (H.size + 1 + i) else none)))))) hP rfl (hA _ hS.1)
    generalize hW1 : (X ++ va_pl L f) ++ [(H.size, .inl (cA, n.toNatClampNeg, .inr (.inr (.inr (.inr (fun i => if i < n.toNatClampNeg then some (H.size + 1 + i) else none))))))] = W1 at hD1 hP1 ⊢
    have hle : ∀ (k9 : Nat) (x : Nat × va_E), W1[k9]? = some x → x.1 ≤ H.size := fun k9 x hx => by
      rw [← hW1] at hx
      by_cases hl : k9 < (X ++ va_pl L f).length
      · rw [List.getElem?_append_left hl] at hx
        exact Nat.le_of_lt ((hP k9 x hx).lt)
      · rw [List.getElem?_append_right (by omega)] at hx
        have h0 : k9 - (X ++ va_pl L f).length < 1 := (List.getElem?_eq_some_iff.mp hx).1
        rw [show k9 - (X ++ va_pl L f).length = 0 by omega] at hx
        cases hx
        exact Nat.le_refl _
    have hr : ∀ (k9 : Nat) (x : Nat × va_E), (((List.range n.toNatClampNeg).map (fun i => H.size + 1 + i)).map (fun a => ((a, .inl (cy, z)) : Nat × va_E)))[k9]? = some x → x.1 = H.size + 1 + k9 := fun k9 x hx => by
      rw [List.getElem?_map, List.getElem?_map] at hx
      by_cases h9 : k9 < n.toNatClampNeg
      · rw [List.getElem?_range h9] at hx
        cases hx
        rfl
      · have hn0 : (List.range n.toNatClampNeg)[k9]? = none := List.getElem?_eq_none (by rw [List.length_range]; omega)
        rw [hn0] at hx
        cases hx
    refine ⟨fun i j x y hi hj hxy => ?_, fun k9 x hx => ?_⟩
    · by_cases h1 : i < W1.length <;> by_cases h2 : j < W1.length
      · rw [List.getElem?_append_left h1] at hi
        rw [List.getElem?_append_left h2] at hj
        exact hD1.1 i j x y hi hj hxy
      · rw [List.getElem?_append_left h1] at hi
        rw [List.getElem?_append_right (by omega)] at hj
        have := hle _ _ hi
        have := hr _ _ hj
        omega
      · rw [List.getElem?_append_right (by omega)] at hi
        rw [List.getElem?_append_left h2] at hj
        have := hle _ _ hj
        have := hr _ _ hi
        omega
      · rw [List.getElem?_append_right (by omega)] at hi hj
        have := hr _ _ hi
        have := hr _ _ hj
        omega
    · by_cases h1 : k9 < W1.length
      · rw [List.getElem?_append_left h1] at hx
        exact hD1.2 k9 x hx
      · rw [List.getElem?_append_right (by omega)] at hx
        have := hr _ _ hx
        exact hA _ (by have := hS.1; omega)
  have hAr : ArrOfT s cA (.array ty) := fun N9 z9 => by
    obtain ⟨-, k9, hk9, cm9, hkk9⟩ := (hO 0 0 0).1
    exact ⟨(fun q hq => by cases hq), k9, hk9, cm9, hkk9⟩
  have hK2 : va_K D cl (tys ++ [(cA, .array ty)]) s := ⟨hK.1, fun k9 x hx => by
    by_cases hl : k9 < tys.length
    · rw [List.getElem?_append_left hl] at hx
      exact hK.2 k9 x hx
    · rw [List.getElem?_append_right (by omega)] at hx
      have h0 : k9 - tys.length < 1 := (List.getElem?_eq_some_iff.mp hx).1
      rw [show k9 - tys.length = 0 by omega] at hx
      cases hx
      exact ⟨hAr, fA⟩⟩
  obtain ⟨t, a1, b1⟩ := kk H.size (fun i => H.size + 1 + i) cA F.heap (fun i j _ _ h => by have h9 : H.size + 1 + i = H.size + 1 + j := h; omega) hnl hK2 (by rw [← vr_rows hnm]; exact vr_lay hP2) (by rw [← vr_rows hnm]; exact vr_layD hD2) ⟨by rw [f1]; have := hS.1; omega, fun x h1 h2 => (hold x (Nat.lt_of_lt_of_le h1 hS.1)).trans (hS.2.1 x h1 h2), hS.2.2⟩ F rfl X'
  refine ⟨t, step t ?_, b1⟩
  have e : T.heap.size = H.size := by rw [hT]
  rw [e]
  exact a1
end VGM
/-! ===== END ===== -/

/-! ===== BEGIN exceptions that leave a method, and their catching by the caller (launches without stack traces) ===== -/
section VXA
/-! The laws vx_back, vx_callV, vx_callS, vx_callSW, vx_throw0, vx_throwS follow proofs of the library, with one case more: JvmDerived/Free/Laws.lean (Back.of_free), Shelf42/LK1.lean (callV, callS), Shelf/KitTraced.lean (throwNew0V, throwNewS). -/
/-- where a method has thrown q: the class by its name, the cell, what was written, the world -/
def vx_T (XC : String → State → State → Prop) (st : State) (q : Addr) (t : State) (mc ms : Nat) (free : Addr → Prop) : Prop :=
  ∃ (E : String) (ce : Cell) (L : List Loc), XC E st t ∧ t.heap[q]? = some ce ∧ ce.vm = .none ∧ st.vm.findClass E = some ce.cls ∧ st.WarmedH t.vm ∧ st.sameButNew ({ t with vm := st.vm } : State) L mc ms ∧ ∀ z ∈ L, free z.base
def vx_Q (Qc : Array Value → State → Outcome → State → Prop) (XC : String → State → State → Prop) (mc ms : Nat) (free : Addr → Prop) : Array Value → State → Outcome → State → Prop := fun a st o t =>
  (Qc a st o t ∧ ∃ L, FrameEnd st o t L mc ms ∧ ∀ q ∈ L, free q.base) ∨ ∃ q, o = .threw q ∧ vx_T XC st q t mc ms free
/-- a callee that returns or throws -/
def vx_Met (l : Launch) (y : MethodName) (ws : List Cond) (rm : Room) (Pc : Array Value → State → Prop) (Qc : Array Value → State → Outcome → State → Prop) (XC : String → State → State → Prop) (mc ms : Nat) (free : Addr → Prop) : Prop :=
  MetFree l y (headSpec ws rm) Pc (fun _ _ _ _ _ => True) (vx_Q Qc XC mc ms free)
def vx_Post (XC : String → State → State → Prop) (mc ms : Nat) (free : Addr → Prop) : Pt → Array Value → Addr → Pt → Prop := fun A a q B =>
  ∃ (g : JFrame) (mk : MethodId) (t : State) (L : List Loc) (E : String) (ce : Cell), B.U.heap = t.heap ∧ B.U.vm = t.vm ∧ XC E (A.U.calling g mk a) t ∧ t.heap[q]? = some ce ∧ ce.vm = .none ∧ A.U.vm.findClass E = some ce.cls ∧ B.locs = A.locs ++ L ∧ (∀ z ∈ L, free z.base) ∧ B.cells = A.cells + mc ∧ B.slots = A.slots + ms
def vx_Back (l : Launch) (R : Room) (p : Program) (e : Env) (below : List Frame) (s : State) (sargs : Array Value) (y : MethodName) (len W9 : Nat)
    (Pre : Pt → Array Value → Prop) (Post : Pt → Array Value → Option Value → Pt → Prop) (PostX : Pt → Array Value → Addr → Pt → Prop) : Prop :=
  ∀ (m : MethodId) (meth : Method) (c : Code) (A : Pt) (g : JFrame) (ig : Instr) (mk : MethodId) (a : Array Value),
    Stand p l e R s m sargs below meth c A.U A.locs A.cells A.slots → g.method = m → g.locals.size = c.maxLocals → decode c.code g.pc = .ok (ig, len) →
    2 * g.monitorRoom + (g.stack.map fun v => v.category).sum ≤ W9 → A.U.methodNamed? y = some mk → Pre A a →
    (∃ (v : Option Value) (B : Pt), Stand p l e R s m sargs below meth c B.U B.locs B.cells B.slots ∧ Post A a v B ∧
      Steps p.tables e below (doInvoke e (A.U.setTop g) [] mk a).1 (B.U.setTop { g with pc := g.pc + len, stack := v.toList ++ g.stack })) ∨
    (∃ (q : Addr) (B : Pt), Stand p l e R s m sargs below meth c B.U B.locs B.cells B.slots ∧ PostX A a q B ∧
      Steps p.tables e below (doInvoke e (A.U.setTop g) [] mk a).1 ((B.U.setTop g).pushFrame (.throwing q)))
section Payer
variable {l : Launch} {R : Room} {p : Program} {e : Env} {below : List Frame} {s : State} {sargs : Array Value} {y : MethodName} {len W9 : Nat}
theorem vx_back {ws : List Cond} {rm : Room} {Pc : Array Value → State → Prop} {Qc : Array Value → State → Outcome → State → Prop} {XC : String → State → State → Prop} {mc ms : Nat} {free : Addr → Prop} {bytes : ByteArray} {maxL : Nat} {ret : Option FieldType}
    (hM : vx_Met l y ws rm Pc Qc XC mc ms free) (hblind : FrameBlind Pc) (hrc : rm.cells = mc) (hrs : rm.slots = ms)
    (hframes : rm.frames + 1 ≤ R.frames) (hlocals : W9 + (maxL + 11) + rm.locals ≤ R.locals)
    (hws : ∀ w ∈ ws, ∀ a' U, s.WarmedH U.vm → w.before a' U = true) (hcode : Cond.code y bytes maxL ret ∈ ws) (hinit : ∀ a' U, s.WarmedH U.vm → (Cond.initialized y.cls).before a' U = true) :
    vx_Back l R p e below s sargs y len W9 (PreOf R mc ms Pc) (PostOf Qc mc ms free) (vx_Post XC mc ms free) := by
  intro m meth c A g ig mk a X hg hsize hdg hW hn hp
  have h1 : (headSpec ws rm).pre.before a A.U = true := atoms_intro fun w hw => hws w hw _ _ X.warmed
  have h2 : (Cond.code y bytes maxL ret).before a A.U = true := hws _ hcode _ _ X.warmed
  have h3 : (Cond.initialized y.cls).before a A.U = true := hinit _ _ X.warmed
  have h4 : A.cells + (headSpec ws rm).room.cells ≤ R.cells := by rw [show (headSpec ws rm).room.cells = mc from hrc]; exact hp.1
  have h5 : A.slots + (headSpec ws rm).room.slots ≤ R.slots := by rw [show (headSpec ws rm).room.slots = ms from hrs]; exact hp.2.1
  have hPc : Pc a (A.U.calling g mk a) := hblind _ _ _ _ hp.2.2
  obtain ⟨U, Ls, c0, s0⟩ := A
  dsimp only [Pt.U, Pt.locs, Pt.cells, Pt.slots] at h1 h2 h3 h4 h5 X hn hPc ⊢
  obtain ⟨methY, cY, hmY, hcY, -, hlY, -, -, -, -⟩ := Cond.code_spec hn h2
  obtain ⟨kY, hkY, -⟩ := className_of_methodNamed hn
  have hinitY : kY.init = .initialized := Cond.initialized_spec (findClass_of_methodNamed hn) hkY h3
  have h : At U g.method c below := by rw [hg]; exact X.here
  have hlocals9 : W9 + (maxL + 11) + (headSpec ws rm).room.locals ≤ R.locals := hlocals
  have happ : (headSpec ws rm).appliesLoose y e.platform (U.calling g mk a) = true :=
    Spec.appliesLoose_calling (g := g) h hdg hn hkY hinitY
      (X.room_calling (g := g) (R' := (headSpec ws rm).room) hsize hmY hcY hframes (by rw [hlY]; omega) h4 h5) h1
  obtain ⟨mid, hmid⟩ := h.above
  have hfr : (U.setTop g).frames = (.java g :: mid) ++ below := by rw [State.frames_setTop' g h.top, hmid]; rfl
  obtain ⟨o, s₂, hsteps, -, hend, hq⟩ := Steps.callFree hM p X.admits X.cas X.clock (acts := []) hfr happ hPc trivial
  have hq' : vx_Q Qc XC mc ms free a (U.calling g mk a) o s₂ := hq
  rw [State.frames_setTop' g h.top] at hend
  obtain ⟨g₀, hg0⟩ := Option.isSome_iff_exists.mp h.top
  obtain ⟨r, hr⟩ := State.topJava?_eq_some.mp hg0
  have hr' : (({ U with heap := s₂.heap, slotsUsed := s₂.slotsUsed } : State).setVm s₂.vm).frames = .java g₀ :: r := hr
  rcases hq' with ⟨hqc, L, hfe, hL⟩ | ⟨q, rfl, E, ce, L, hx, hce, hcv, hcl, hW₂, hsm, hL⟩
  · obtain ⟨⟨v, rfl⟩, hW₂, e2, q2, q3, q4, q5, q6⟩ := id hfe
    have e3 : s₂ = ({ (U.calling g mk a).setFrames s₂.frames with heap := s₂.heap, slotsUsed := s₂.slotsUsed } : State).setVm s₂.vm := by
      have : s₂ = ({ s₂ with vm := (U.calling g mk a).vm } : State).setVm s₂.vm := rfl
      rw [e2] at this
      exact this
    obtain ⟨c₂, i₂, len₂, hc₂, hd₂, hf₂⟩ := hend
    have hW' : U.WarmedH s₂.vm := hW₂
    have hcc : c₂ = c := by
      have h1 : s₂.code? g.method = U.code? g.method := by
        rw [State.code?_eq, State.code?_eq, hW'.alike.method?]
      exact Option.some.inj (hc₂.symm.trans (h1.trans h.code))
    subst hcc
    have hlen : len₂ = len := by rw [hdg] at hd₂; cases hd₂; rfl
    subst hlen
    have hs₂ : s₂ = (({ U with heap := s₂.heap, slotsUsed := s₂.slotsUsed } : State).setVm s₂.vm).setTop { g with pc := g.pc + len₂, stack := v.toList ++ g.stack } := by
      refine e3.trans ?_
      rw [hf₂, State.calling_eq h.top, State.setFrames_setFrames, State.setTop_of_frames _ hr', hr]
      rfl
    have hsame : U.sameButNew ({ U with heap := s₂.heap, slotsUsed := s₂.slotsUsed } : State) L mc ms := by
      refine ⟨?_, q2, q3, q4, q5, q6⟩
      obtain ⟨t, ht, -⟩ := State.frames_cons hr
      show ({ U with heap := s₂.heap, slotsUsed := s₂.slotsUsed } : State) = { U.setFrames U.frames with heap := s₂.heap, slotsUsed := s₂.slotsUsed }
      rw [State.setFrames_self ht]
    subst hg
    refine Or.inl ⟨v, ⟨(({ U with heap := s₂.heap, slotsUsed := s₂.slotsUsed } : State).setVm s₂.vm), Ls ++ L, c0 + mc, s0 + ms⟩,
      ⟨X.admits, X.cas, X.clock, X.frames, X.room, X.hears, X.method, X.code, (X.here.setHeapUsed s₂.heap s₂.slotsUsed).setVm hW'.alike, X.tail, State.WarmedH.trans X.warmed hW', X.limits, X.bytes, X.same.trans (hsame.setVm s.vm)⟩,
      ⟨g, mk, s₂, L, rfl, rfl, hqc, rfl, hL, rfl, rfl⟩, ?_⟩
    show Steps p.tables e below _ ((({ U with heap := s₂.heap, slotsUsed := s₂.slotsUsed } : State).setVm s₂.vm).setTop { g with pc := g.pc + len₂, stack := v.toList ++ g.stack })
    rw [← hs₂]
    exact hsteps
  · obtain ⟨e2, q2, q3, q4, q5, q6⟩ := id hsm
    have e3 : s₂ = ({ (U.calling g mk a).setFrames s₂.frames with heap := s₂.heap, slotsUsed := s₂.slotsUsed } : State).setVm s₂.vm := by
      have : s₂ = ({ s₂ with vm := (U.calling g mk a).vm } : State).setVm s₂.vm := rfl
      rw [e2] at this
      exact this
    have hf₂ : s₂.frames = .throwing q :: .java g :: U.frames.tail := hend
    have hW' : U.WarmedH s₂.vm := hW₂
    have hs₂ : s₂ = ((({ U with heap := s₂.heap, slotsUsed := s₂.slotsUsed } : State).setVm s₂.vm).setTop g).pushFrame (.throwing q) := by
      refine e3.trans ?_
      rw [hf₂, State.calling_eq h.top, State.setFrames_setFrames, State.pushFrame, State.frames_setTop _ hr', State.setTop_of_frames _ hr', State.setFrames_setFrames, hr]
      rfl
    have hsame : U.sameButNew ({ U with heap := s₂.heap, slotsUsed := s₂.slotsUsed } : State) L mc ms := by
      refine ⟨?_, q2, q3, q4, q5, q6⟩
      obtain ⟨t, ht, -⟩ := State.frames_cons hr
      show ({ U with heap := s₂.heap, slotsUsed := s₂.slotsUsed } : State) = { U.setFrames U.frames with heap := s₂.heap, slotsUsed := s₂.slotsUsed }
      rw [State.setFrames_self ht]
    subst hg
    refine Or.inr ⟨q, ⟨(({ U with heap := s₂.heap, slotsUsed := s₂.slotsUsed } : State).setVm s₂.vm), Ls ++ L, c0 + mc, s0 + ms⟩,
      ⟨X.admits, X.cas, X.clock, X.frames, X.room, X.hears, X.method, X.code, (X.here.setHeapUsed s₂.heap s₂.slotsUsed).setVm hW'.alike, X.tail, State.WarmedH.trans X.warmed hW', X.limits, X.bytes, X.same.trans (hsame.setVm s.vm)⟩,
      ⟨g, mk, s₂, L, E, ce, rfl, rfl, hx, hce, hcv, hcl, rfl, hL, rfl, rfl⟩, ?_⟩
    show Steps p.tables e below _ (((({ U with heap := s₂.heap, slotsUsed := s₂.slotsUsed } : State).setVm s₂.vm).setTop g).pushFrame (.throwing q))
    rw [← hs₂]
    exact hsteps
end Payer
section Calls
variable {p : Program} {l : Launch} {e : Env} {R : Room} {s : State} {m : MethodId} {args : Array Value} {below : List Frame} {meth : Method} {c : Code} {T : State} {locs : List Loc} {cells slots : Nat}
theorem vx_callV (X : Stand p l e R s m args below meth c T locs cells slots) (hexec : p.tables.exec = Jvm.exec) {own C : String} {index : Nat} {y : MethodName} {bytes : ByteArray} {maxL : Nat} {ret : Option FieldType}
    (hown : s.vm.findClass own = some m.cls) (hlink : (Cond.methodLink own index y).before args s = true) (hinst : (Cond.instanceMethod y).before args s = true) (hsel : (Cond.selects C y y).before args s = true)
    (hcode : (Cond.code y bytes maxL ret).before args s = true) (hy : y.cls ≠ "java/lang/invoke/MethodHandle" ∧ y.cls ≠ "java/lang/invoke/VarHandle")
    {W9 : Nat} {Pre : Pt → Array Value → Prop} {Post : Pt → Array Value → Option Value → Pt → Prop} {PostX : Pt → Array Value → Addr → Pt → Prop} (hK : vx_Back l R p e below s args y 3 W9 Pre Post PostX)
    {b : Addr} {cellB : Cell} (hcell : T.heap[b]? = some cellB) (hobj : cellB.vm.isStatics = false) (hcls : s.vm.findClass C = some cellB.cls)
    {g : JFrame} (hg : g.method = m) (hsize : g.locals.size = c.maxLocals) {argsL rest : List Value} (hlen : ∀ sig, parseMethodDescriptor y.desc = some sig → argsL.length = sig.parameters.length)
    (hstack : g.stack = argsL.reverse ++ .ref b :: rest) (hW : 2 * g.monitorRoom + (rest.map fun v => v.category).sum ≤ W9) (hdg : decode c.code g.pc = .ok (.invokevirtual index, 3))
    (hpre : ∀ vm₁, s.WarmedH vm₁ → Pre ⟨T.setVm vm₁, locs, cells, slots⟩ (Value.ref b :: argsL).toArray) :
    (∃ (v : Option Value) (vm₁ : Vm) (B : Pt), s.WarmedH vm₁ ∧ Stand p l e R s m args below meth c B.U B.locs B.cells B.slots ∧ Post ⟨T.setVm vm₁, locs, cells, slots⟩ (Value.ref b :: argsL).toArray v B ∧
      ∀ target, Steps p.tables e below (B.U.setTop { g with pc := g.pc + 3, stack := v.toList ++ rest }) target → Steps p.tables e below (T.setTop g) target) ∨
    (∃ (q : Addr) (vm₁ : Vm) (B : Pt), s.WarmedH vm₁ ∧ Stand p l e R s m args below meth c B.U B.locs B.cells B.slots ∧ PostX ⟨T.setVm vm₁, locs, cells, slots⟩ (Value.ref b :: argsL).toArray q B ∧
      Steps p.tables e below (T.setTop g) ((B.U.setTop { g with stack := rest }).pushFrame (.throwing q))) := by
  obtain ⟨mk, methM, hnamed, hmethM, hstM, habM⟩ := Cond.instanceMethod_spec hinst
  obtain ⟨methM', cM, hmethM', -, -, -, -, -, -, hsigM⟩ := Cond.code_spec hnamed hcode
  cases hmethM.symm.trans hmethM'
  obtain ⟨c2, r2, m2, q1, q2, q3, q4, kP, hkP, hkPi⟩ := Cond.selects_spec hsel
  cases hcls.symm.trans q1
  cases (State.methodFound?_of_named hnamed hy).symm.trans q2
  cases hnamed.symm.trans q3
  have hselP : selectMethod e.platform s.vm cellB.cls mk = .method mk := by rw [Launch.admits_selectMethod X.admits]; exact q4
  obtain ⟨vm₁, X₁, hstep₁⟩ := X.invokevirtual hexec hown hlink hnamed hmethM hstM hkP hkPi hy (a := b) (cell := cellB) hcell
    (fun z h => by rw [h] at hobj; cases hobj) hselP hmethM habM hkP hkPi (g := g) hg (argsL := argsL) (rest := rest) (hlen _ hsigM) hstack hdg
  rcases hK m meth c ⟨T.setVm vm₁, locs, cells, slots⟩ { g with stack := rest } (.invokevirtual index) mk (Value.ref b :: argsL).toArray X₁ hg hsize hdg hW (X₁.named hnamed) (hpre vm₁ X₁.warmed) with ⟨v, B, X', hpost, hsteps⟩ | ⟨q, B, X', hpost, hsteps⟩
  · exact Or.inl ⟨v, vm₁, B, X₁.warmed, X', hpost, fun target h => hstep₁ _ fun acts => by rw [doInvoke_state]; exact hsteps.trans h⟩
  · exact Or.inr ⟨q, vm₁, B, X₁.warmed, X', hpost, hstep₁ _ fun acts => by rw [doInvoke_state]; exact hsteps⟩
theorem vx_callS (X : Stand p l e R s m args below meth c T locs cells slots) (hexec : p.tables.exec = Jvm.exec) {own : String} {index : Nat} {y : MethodName} {bytes : ByteArray} {maxL : Nat} {ret : Option FieldType}
    (hown : s.vm.findClass own = some m.cls) (hlink : (Cond.methodLink own index y).before args s = true) (hstat : (Cond.static y).before args s = true) (hinit : (Cond.initialized y.cls).before args s = true)
    (hcode : (Cond.code y bytes maxL ret).before args s = true) (hy : y.cls ≠ "java/lang/invoke/MethodHandle" ∧ y.cls ≠ "java/lang/invoke/VarHandle")
    {W9 : Nat} {Pre : Pt → Array Value → Prop} {Post : Pt → Array Value → Option Value → Pt → Prop} {PostX : Pt → Array Value → Addr → Pt → Prop} (hK : vx_Back l R p e below s args y 3 W9 Pre Post PostX)
    {g : JFrame} (hg : g.method = m) (hsize : g.locals.size = c.maxLocals) {argsL rest : List Value} (hlen : ∀ sig, parseMethodDescriptor y.desc = some sig → argsL.length = sig.parameters.length)
    (hstack : g.stack = argsL.reverse ++ rest) (hW : 2 * g.monitorRoom + (rest.map fun v => v.category).sum ≤ W9) (hdg : decode c.code g.pc = .ok (.invokestatic index, 3))
    (hpre : ∀ vm₁, s.WarmedH vm₁ → Pre ⟨T.setVm vm₁, locs, cells, slots⟩ argsL.toArray) :
    (∃ (v : Option Value) (vm₁ : Vm) (B : Pt), s.WarmedH vm₁ ∧ Stand p l e R s m args below meth c B.U B.locs B.cells B.slots ∧ Post ⟨T.setVm vm₁, locs, cells, slots⟩ argsL.toArray v B ∧
      ∀ target, Steps p.tables e below (B.U.setTop { g with pc := g.pc + 3, stack := v.toList ++ rest }) target → Steps p.tables e below (T.setTop g) target) ∨
    (∃ (q : Addr) (vm₁ : Vm) (B : Pt), s.WarmedH vm₁ ∧ Stand p l e R s m args below meth c B.U B.locs B.cells B.slots ∧ PostX ⟨T.setVm vm₁, locs, cells, slots⟩ argsL.toArray q B ∧
      Steps p.tables e below (T.setTop g) ((B.U.setTop { g with stack := rest }).pushFrame (.throwing q))) := by
  obtain ⟨mk, hnamed⟩ := Cond.code_named hcode
  obtain ⟨methM, cM, hmethM, -, -, -, -, -, -, hsigM⟩ := Cond.code_spec hnamed hcode
  have hstatic : methM.isStatic = true := Cond.static_spec hnamed hmethM hstat
  obtain ⟨kP, hkP, -⟩ := className_of_methodNamed hnamed
  have hinitP : kP.init = .initialized := Cond.initialized_spec (findClass_of_methodNamed hnamed) hkP hinit
  obtain ⟨vm₁, X₁, hstep₁⟩ := X.invokestatic hexec hown hlink hnamed hmethM hstatic hkP hinitP hy (g := g) hg (argsL := argsL) (rest := rest) (hlen _ hsigM) hstack hdg
  rcases hK m meth c ⟨T.setVm vm₁, locs, cells, slots⟩ { g with stack := rest } (.invokestatic index) mk argsL.toArray X₁ hg hsize hdg hW (X₁.named hnamed) (hpre vm₁ X₁.warmed) with ⟨v, B, X', hpost, hsteps⟩ | ⟨q, B, X', hpost, hsteps⟩
  · exact Or.inl ⟨v, vm₁, B, X₁.warmed, X', hpost, fun target h => hstep₁ _ fun acts => by rw [doInvoke_state]; exact hsteps.trans h⟩
  · exact Or.inr ⟨q, vm₁, B, X₁.warmed, X', hpost, hstep₁ _ fun acts => by rw [doInvoke_state]; exact hsteps⟩
end Calls
theorem vx_cls {s : State} {T : State} {vm₁ : Vm} {E : String} {k : ClassId} (hW : s.WarmedH vm₁) (h : (T.setVm vm₁).vm.findClass E = some k) : s.vm.findClass E = some k := by
  have h1 : vm₁.findClass E = some k := h
  rw [hW.alike.findClass] at h1
  exact h1
/-- the method's frame g, with q thrown over it -/
def vx_W (p : Program) (l : Launch) (e : Env) (R : Room) (s : State) (m : MethodId) (args : Array Value) (below : List Frame) (meth : Method) (c : Code) (H : Heap) (locs : List Loc) (cells slots : Nat) (Q : State → Prop) (g : JFrame) (q : Addr) : Prop :=
  ∀ T : State, T.heap = H → Stand p l e R s m args below meth c T locs cells slots → ∃ t, Steps p.tables e below ((T.setTop g).pushFrame (.throwing q)) t ∧ Q t
def vx_Run (p : Program) (l : Launch) (e : Env) (R : Room) (s : State) (m : MethodId) (args : Array Value) (below : List Frame) (meth : Method) (c : Code) (H : Heap) (locs : List Loc) (cells slots mc ms : Nat) (g : JFrame) (rest : List Value) (Qa : State → Outcome → State → Prop) (XC : String → State → State → Prop) (free : Addr → Prop) : Prop :=
  ∀ T : State, T.heap = H → Stand p l e R s m args below meth c T locs cells slots →
    (∃ (v : Option Value) (st₀ t T' : State) (L : List Loc), st₀.heap = H ∧ Stand p l e R s m args below meth c T' (locs ++ L) (cells + mc) (slots + ms) ∧ (∀ q ∈ L, free q.base) ∧ T'.heap = t.heap ∧ T'.vm = t.vm ∧ Qa st₀ (.returned v) t ∧
      Goes p e below T g T' { g with pc := g.pc + 3, stack := v.toList ++ rest }) ∨
    (∃ (q : Addr) (st₀ t T' : State) (L : List Loc) (E : String) (ce : Cell), st₀.heap = H ∧ Stand p l e R s m args below meth c T' (locs ++ L) (cells + mc) (slots + ms) ∧ (∀ z ∈ L, free z.base) ∧ T'.heap = t.heap ∧ T'.vm = t.vm ∧ XC E st₀ t ∧ t.heap[q]? = some ce ∧ ce.vm = .none ∧ s.vm.findClass E = some ce.cls ∧
      Steps p.tables e below (T.setTop g) ((T'.setTop { g with stack := rest }).pushFrame (.throwing q)))
def vx_X {S : Type} (px : S → Prop) (B : String → S → State → Prop) (A : Nat → Prop) : String → State → State → Prop := fun E st t => ∃ u : S, px u ∧ B E u t ∧ va_F A st t
section Runs
variable {p : Program} {l : Launch} {e : Env} {R : Room} {s : State} {m : MethodId} {args : Array Value} {below : List Frame} {meth : Method} {c : Code} {H : Heap} {locs : List Loc} {cells slots : Nat}
variable {y : MethodName} {bytes cc : ByteArray} {maxL nL mc ms n index : Nat} {ret : Option FieldType} {ws : List Cond} {rm : Room} {Pc : Array Value → State → Prop} {Qc : Array Value → State → Outcome → State → Prop} {XC : String → State → State → Prop} {free : Addr → Prop} {Ts : List Cond} {own C : String} {b : Addr} {As rest : List Value} {g : JFrame}
theorem vx_callBack (cb : CallB R s args own index y bytes maxL ret ws rm mc ms n) (hM : vx_Met l y ws rm Pc Qc XC mc ms free) (hbl : FrameBlind Pc) : vx_Back l R p e below s args y 3 8 (PreOf R mc ms Pc) (PostOf Qc mc ms free) (vx_Post XC mc ms free) := by
  obtain ⟨hrc, hrs, hfr, hlo, hws, hcw, -, hini, -⟩ := cb
  exact vx_back (bytes := bytes) (maxL := maxL) (ret := ret) hM hbl hrc hrs hfr hlo hws hcw (fun a' U hW => word_at hW (Or.inl (by first | rfl | simp [Cond.onTables, Cond.keeps, Cond.steady])) hini)
theorem vx_runV (S : CallFix p m c cc nL s args Ts own) (hM : vx_Met l y ws rm Pc Qc XC mc ms free) (cw : CallW R s args own C index y bytes maxL ret ws rm mc ms n) (hp : PreV s H C b Pc As)
    (hg : g.method = m) (hn : As.length = n) (hsize : g.locals.size = nL) (hstack : g.stack = As.reverse ++ .ref b :: rest) (hW : 2 * g.monitorRoom + (rest.map fun v => v.category).sum ≤ 8) (hdg : decode cc g.pc = .ok (.invokevirtual index, 3)) (hf : cells + mc ≤ R.cells ∧ slots + ms ≤ R.slots) :
    vx_Run p l e R s m args below meth c H locs cells slots mc ms g rest (Qc (Value.ref b :: As).toArray) XC free := by
  have hK : vx_Back l R p e below s args y 3 8 (PreOf R mc ms Pc) (PostOf Qc mc ms free) (vx_Post XC mc ms free) := vx_callBack cw.1 hM hp.1
  obtain ⟨⟨-, -, -, -, -, -, hcode, -, hy, hlen, hl⟩, hin, hse⟩ := cw
  obtain ⟨hx, hb, hml, ho, -⟩ := S
  obtain ⟨-, ⟨cellB, hcB, hoB, hclB⟩, hPc⟩ := hp
  intro T hT X
  rcases vx_callV X hx (C := C) (bytes := bytes) (maxL := maxL) (ret := ret) ho hl hin hse hcode hy hK (by rw [hT]; exact hcB) hoB hclB hg (hsize.trans hml.symm) (argsL := As) (rest := rest) (fun sig h => hn.trans (hlen sig h)) hstack hW (by rw [hb]; exact hdg)
    (fun vm₁ hW₁ => ⟨hf.1, hf.2, hPc (T.setVm vm₁) hT hW₁⟩) with ⟨v, vm₁, ⟨U', l2, c2, s2⟩, hW₁, X', ⟨g', mk, t, L, e1, e2, hq, h1, hL, h2, h3⟩, st⟩ | ⟨q, vm₁, ⟨U', l2, c2, s2⟩, hW₁, X', ⟨g', mk, t, L, E, ce, e1, e2, hq, hce, hcv, hcl, h1, hL, h2, h3⟩, st⟩
  · dsimp only [Pt.U, Pt.locs, Pt.cells, Pt.slots] at X' e1 e2 h1 h2 h3 st
    subst h1; subst h2; subst h3
    exact Or.inl ⟨v, (T.setVm vm₁).calling g' mk (Value.ref b :: As).toArray, t, U', L, hT, X', hL, e1, e2, hq, st⟩
  · dsimp only [Pt.U, Pt.locs, Pt.cells, Pt.slots] at X' e1 e2 h1 h2 h3 st hcl
    subst h1; subst h2; subst h3
    exact Or.inr ⟨q, (T.setVm vm₁).calling g' mk (Value.ref b :: As).toArray, t, U', L, E, ce, hT, X', hL, e1, e2, hq, hce, hcv, vx_cls hW₁ hcl, st⟩
theorem vx_runS (S : CallFix p m c cc nL s args Ts own) (hM : vx_Met l y ws rm Pc Qc XC mc ms free) (cw : CallB R s args own index y bytes maxL ret ws rm mc ms n ∧ (Cond.static y).before args s = true) (hp : PreS s H Pc As)
    (hg : g.method = m) (hn : As.length = n) (hsize : g.locals.size = nL) (hstack : g.stack = As.reverse ++ rest) (hW : 2 * g.monitorRoom + (rest.map fun v => v.category).sum ≤ 8) (hdg : decode cc g.pc = .ok (.invokestatic index, 3)) (hf : cells + mc ≤ R.cells ∧ slots + ms ≤ R.slots) :
    vx_Run p l e R s m args below meth c H locs cells slots mc ms g rest (Qc As.toArray) XC free := by
  have hK : vx_Back l R p e below s args y 3 8 (PreOf R mc ms Pc) (PostOf Qc mc ms free) (vx_Post XC mc ms free) := vx_callBack cw.1 hM hp.1
  obtain ⟨⟨-, -, -, -, -, -, hcode, hini, hy, hlen, hl⟩, hstt⟩ := cw
  obtain ⟨hx, hb, hml, ho, -⟩ := S
  intro T hT X
  rcases vx_callS X hx (bytes := bytes) (maxL := maxL) (ret := ret) ho hl hstt hini hcode hy hK hg (hsize.trans hml.symm) (argsL := As) (rest := rest) (fun sig h => hn.trans (hlen sig h)) hstack hW (by rw [hb]; exact hdg)
    (fun vm₁ hW₁ => ⟨hf.1, hf.2, hp.2 (T.setVm vm₁) hT hW₁⟩) with ⟨v, vm₁, ⟨U', l2, c2, s2⟩, hW₁, X', ⟨g', mk, t, L, e1, e2, hq, h1, hL, h2, h3⟩, st⟩ | ⟨q, vm₁, ⟨U', l2, c2, s2⟩, hW₁, X', ⟨g', mk, t, L, E, ce, e1, e2, hq, hce, hcv, hcl, h1, hL, h2, h3⟩, st⟩
  · dsimp only [Pt.U, Pt.locs, Pt.cells, Pt.slots] at X' e1 e2 h1 h2 h3 st
    subst h1; subst h2; subst h3
    exact Or.inl ⟨v, (T.setVm vm₁).calling g' mk As.toArray, t, U', L, hT, X', hL, e1, e2, hq, st⟩
  · dsimp only [Pt.U, Pt.locs, Pt.cells, Pt.slots] at X' e1 e2 h1 h2 h3 st hcl
    subst h1; subst h2; subst h3
    exact Or.inr ⟨q, (T.setVm vm₁).calling g' mk As.toArray, t, U', L, E, ce, hT, X', hL, e1, e2, hq, hce, hcv, vx_cls hW₁ hcl, st⟩
end Runs
section Rows
variable {p : Program} {l : Launch} {e : Env} {R : Room} {s : State} {m : MethodId} {args : Array Value} {below : List Frame} {meth : Method} {c : Code} {H : Heap} {locs : List Loc} {cells slots : Nat} {Q : State → Prop}
variable {mc ms : Nat} {free : Addr → Prop} {A0 A1 : Nat → Prop} {H0 : Heap} {a : Array Value} {pc : Nat} {ls : Array Slot} {st0 rest : List Value}
theorem vx_keep {st₀ t T' : State} {L : List Loc} (h0 : st₀.heap = H) (e1 : T'.heap = t.heap) (hS : va_S A0 H0 H locs) (hA : ∀ q, q < H.size → A1 q → A0 q) (hf : ∀ q, free q → A0 q) (hL : ∀ q ∈ L, free q.base) (hF : va_F A1 st₀ t) :
    H.size ≤ T'.heap.size ∧ (∀ q : Nat, q < H.size → ¬ A1 q → T'.heap[q]? = H[q]?) ∧ va_S A0 H0 T'.heap (locs ++ L) := by
  obtain ⟨hz, hk⟩ := hF
  rw [h0] at hz hk
  exact ⟨by rw [e1]; exact hz, fun q h1 h2 => by rw [e1]; exact hk q h1 h2,
    ⟨Nat.le_trans hS.1 (by rw [e1]; exact hz), fun q h1 h2 => by rw [e1, hk q (Nat.lt_of_lt_of_le h1 hS.1) (fun z => h2 (hA q (Nat.lt_of_lt_of_le h1 hS.1) z))]; exact hS.2.1 q h1 h2, fun q hq => by
      rcases List.mem_append.mp hq with h | h
      · exact hS.2.2 q h
      · exact hf _ (hL q h)⟩⟩
theorem vx_calli {S SX : Type} {post : Int32 → S → Prop} {px : SX → Prop} {B : S → State → Prop} {BX : String → SX → State → Prop} {AX : Nat → Prop} (hr : vx_Run p l e R s m args below meth c H locs cells slots mc ms (F0 m pc ls st0) rest (va_Qi post B A1 a) (vx_X px BX AX) free) (hS : va_S A0 H0 H locs) (hA : ∀ q, q < H.size → A1 q → A0 q) (hf : ∀ q, free q → A0 q) (hAX : ∀ q, q < H.size → AX q → A0 q)
    (kx : ∀ (E : String) (ce : Cell) (q9 : Addr) (u : SX) (t : State) (H1 : Heap) (locs1 : List Loc), t.heap = H1 → s.vm.Alike t.vm → px u → BX E u t → H.size ≤ H1.size → (∀ q : Nat, q < H.size → ¬ AX q → H1[q]? = H[q]?) → va_S A0 H0 H1 locs1 → H1[q9]? = some ce → ce.vm = .none → s.vm.findClass E = some ce.cls → vx_W p l e R s m args below meth c H1 locs1 (cells + mc) (slots + ms) Q (F0 m pc ls rest) q9)
    (kk : ∀ (r : Int32) (u : S) (t : State) (H1 : Heap) (locs1 : List Loc), t.heap = H1 → s.vm.Alike t.vm → post r u → B u t → H.size ≤ H1.size → (∀ q : Nat, q < H.size → ¬ A1 q → H1[q]? = H[q]?) → va_S A0 H0 H1 locs1 → W p l e R s m args below meth c H1 locs1 (cells + mc) (slots + ms) Q (F0 m (pc + 3) ls (.int r :: rest))) : W p l e R s m args below meth c H locs cells slots Q (F0 m pc ls st0) := by
  intro T hT X
  rcases hr T hT X with ⟨v, st₀, t, T', L, h0, X', hL, e1, e2, ⟨⟨r, u, hv, hp, hb⟩, hF⟩, st⟩ | ⟨q, st₀, t, T', L, E, ce, h0, X', hL, e1, e2, ⟨u, hp, hb, hF⟩, hce, hcv, hcl, st⟩
  · cases hv
    obtain ⟨k1, k2, k3⟩ := vx_keep h0 e1 hS hA hf hL hF
    obtain ⟨t2, a1, b1⟩ := kk r u t T'.heap (locs ++ L) e1.symm (by rw [← e2]; exact X'.warmed.alike) hp hb k1 k2 k3 T' rfl X'
    exact ⟨t2, st t2 a1, b1⟩
  · obtain ⟨k1, k2, k3⟩ := vx_keep h0 e1 hS hAX hf hL hF
    obtain ⟨t2, a1, b1⟩ := kx E ce q u t T'.heap (locs ++ L) e1.symm (by rw [← e2]; exact X'.warmed.alike) hp hb k1 k2 k3 (by rw [e1]; exact hce) hcv hcl T' rfl X'
    exact ⟨t2, st.trans a1, b1⟩
theorem vx_calll {S SX : Type} {post : Int64 → S → Prop} {px : SX → Prop} {B : S → State → Prop} {BX : String → SX → State → Prop} {AX : Nat → Prop} (hr : vx_Run p l e R s m args below meth c H locs cells slots mc ms (F0 m pc ls st0) rest (va_Ql post B A1 a) (vx_X px BX AX) free) (hS : va_S A0 H0 H locs) (hA : ∀ q, q < H.size → A1 q → A0 q) (hf : ∀ q, free q → A0 q) (hAX : ∀ q, q < H.size → AX q → A0 q)
    (kx : ∀ (E : String) (ce : Cell) (q9 : Addr) (u : SX) (t : State) (H1 : Heap) (locs1 : List Loc), t.heap = H1 → s.vm.Alike t.vm → px u → BX E u t → H.size ≤ H1.size → (∀ q : Nat, q < H.size → ¬ AX q → H1[q]? = H[q]?) → va_S A0 H0 H1 locs1 → H1[q9]? = some ce → ce.vm = .none → s.vm.findClass E = some ce.cls → vx_W p l e R s m args below meth c H1 locs1 (cells + mc) (slots + ms) Q (F0 m pc ls rest) q9)
    (kk : ∀ (r : Int64) (u : S) (t : State) (H1 : Heap) (locs1 : List Loc), t.heap = H1 → s.vm.Alike t.vm → post r u → B u t → H.size ≤ H1.size → (∀ q : Nat, q < H.size → ¬ A1 q → H1[q]? = H[q]?) → va_S A0 H0 H1 locs1 → W p l e R s m args below meth c H1 locs1 (cells + mc) (slots + ms) Q (F0 m (pc + 3) ls (.long r :: rest))) : W p l e R s m args below meth c H locs cells slots Q (F0 m pc ls st0) := by
  intro T hT X
  rcases hr T hT X with ⟨v, st₀, t, T', L, h0, X', hL, e1, e2, ⟨⟨r, u, hv, hp, hb⟩, hF⟩, st⟩ | ⟨q, st₀, t, T', L, E, ce, h0, X', hL, e1, e2, ⟨u, hp, hb, hF⟩, hce, hcv, hcl, st⟩
  · cases hv
    obtain ⟨k1, k2, k3⟩ := vx_keep h0 e1 hS hA hf hL hF
    obtain ⟨t2, a1, b1⟩ := kk r u t T'.heap (locs ++ L) e1.symm (by rw [← e2]; exact X'.warmed.alike) hp hb k1 k2 k3 T' rfl X'
    exact ⟨t2, st t2 a1, b1⟩
  · obtain ⟨k1, k2, k3⟩ := vx_keep h0 e1 hS hAX hf hL hF
    obtain ⟨t2, a1, b1⟩ := kx E ce q u t T'.heap (locs ++ L) e1.symm (by rw [← e2]; exact X'.warmed.alike) hp hb k1 k2 k3 (by rw [e1]; exact hce) hcv hcl T' rfl X'
    exact ⟨t2, st.trans a1, b1⟩
theorem vx_callf {S SX : Type} {post : UInt32 → S → Prop} {px : SX → Prop} {B : S → State → Prop} {BX : String → SX → State → Prop} {AX : Nat → Prop} (hr : vx_Run p l e R s m args below meth c H locs cells slots mc ms (F0 m pc ls st0) rest (va_Qf post B A1 a) (vx_X px BX AX) free) (hS : va_S A0 H0 H locs) (hA : ∀ q, q < H.size → A1 q → A0 q) (hf : ∀ q, free q → A0 q) (hAX : ∀ q, q < H.size → AX q → A0 q)
    (kx : ∀ (E : String) (ce : Cell) (q9 : Addr) (u : SX) (t : State) (H1 : Heap) (locs1 : List Loc), t.heap = H1 → s.vm.Alike t.vm → px u → BX E u t → H.size ≤ H1.size → (∀ q : Nat, q < H.size → ¬ AX q → H1[q]? = H[q]?) → va_S A0 H0 H1 locs1 → H1[q9]? = some ce → ce.vm = .none → s.vm.findClass E = some ce.cls → vx_W p l e R s m args below meth c H1 locs1 (cells + mc) (slots + ms) Q (F0 m pc ls rest) q9)
    (kk : ∀ (r : UInt32) (u : S) (t : State) (H1 : Heap) (locs1 : List Loc), t.heap = H1 → s.vm.Alike t.vm → post r u → B u t → H.size ≤ H1.size → (∀ q : Nat, q < H.size → ¬ A1 q → H1[q]? = H[q]?) → va_S A0 H0 H1 locs1 → W p l e R s m args below meth c H1 locs1 (cells + mc) (slots + ms) Q (F0 m (pc + 3) ls (.float r :: rest))) : W p l e R s m args below meth c H locs cells slots Q (F0 m pc ls st0) := by
  intro T hT X
  rcases hr T hT X with ⟨v, st₀, t, T', L, h0, X', hL, e1, e2, ⟨⟨r, u, hv, hp, hb⟩, hF⟩, st⟩ | ⟨q, st₀, t, T', L, E, ce, h0, X', hL, e1, e2, ⟨u, hp, hb, hF⟩, hce, hcv, hcl, st⟩
  · cases hv
    obtain ⟨k1, k2, k3⟩ := vx_keep h0 e1 hS hA hf hL hF
    obtain ⟨t2, a1, b1⟩ := kk r u t T'.heap (locs ++ L) e1.symm (by rw [← e2]; exact X'.warmed.alike) hp hb k1 k2 k3 T' rfl X'
    exact ⟨t2, st t2 a1, b1⟩
  · obtain ⟨k1, k2, k3⟩ := vx_keep h0 e1 hS hAX hf hL hF
    obtain ⟨t2, a1, b1⟩ := kx E ce q u t T'.heap (locs ++ L) e1.symm (by rw [← e2]; exact X'.warmed.alike) hp hb k1 k2 k3 (by rw [e1]; exact hce) hcv hcl T' rfl X'
    exact ⟨t2, st.trans a1, b1⟩
theorem vx_calld {S SX : Type} {post : UInt64 → S → Prop} {px : SX → Prop} {B : S → State → Prop} {BX : String → SX → State → Prop} {AX : Nat → Prop} (hr : vx_Run p l e R s m args below meth c H locs cells slots mc ms (F0 m pc ls st0) rest (va_Qd post B A1 a) (vx_X px BX AX) free) (hS : va_S A0 H0 H locs) (hA : ∀ q, q < H.size → A1 q → A0 q) (hf : ∀ q, free q → A0 q) (hAX : ∀ q, q < H.size → AX q → A0 q)
    (kx : ∀ (E : String) (ce : Cell) (q9 : Addr) (u : SX) (t : State) (H1 : Heap) (locs1 : List Loc), t.heap = H1 → s.vm.Alike t.vm → px u → BX E u t → H.size ≤ H1.size → (∀ q : Nat, q < H.size → ¬ AX q → H1[q]? = H[q]?) → va_S A0 H0 H1 locs1 → H1[q9]? = some ce → ce.vm = .none → s.vm.findClass E = some ce.cls → vx_W p l e R s m args below meth c H1 locs1 (cells + mc) (slots + ms) Q (F0 m pc ls rest) q9)
    (kk : ∀ (r : UInt64) (u : S) (t : State) (H1 : Heap) (locs1 : List Loc), t.heap = H1 → s.vm.Alike t.vm → post r u → B u t → H.size ≤ H1.size → (∀ q : Nat, q < H.size → ¬ A1 q → H1[q]? = H[q]?) → va_S A0 H0 H1 locs1 → W p l e R s m args below meth c H1 locs1 (cells + mc) (slots + ms) Q (F0 m (pc + 3) ls (.double r :: rest))) : W p l e R s m args below meth c H locs cells slots Q (F0 m pc ls st0) := by
  intro T hT X
  rcases hr T hT X with ⟨v, st₀, t, T', L, h0, X', hL, e1, e2, ⟨⟨r, u, hv, hp, hb⟩, hF⟩, st⟩ | ⟨q, st₀, t, T', L, E, ce, h0, X', hL, e1, e2, ⟨u, hp, hb, hF⟩, hce, hcv, hcl, st⟩
  · cases hv
    obtain ⟨k1, k2, k3⟩ := vx_keep h0 e1 hS hA hf hL hF
    obtain ⟨t2, a1, b1⟩ := kk r u t T'.heap (locs ++ L) e1.symm (by rw [← e2]; exact X'.warmed.alike) hp hb k1 k2 k3 T' rfl X'
    exact ⟨t2, st t2 a1, b1⟩
  · obtain ⟨k1, k2, k3⟩ := vx_keep h0 e1 hS hAX hf hL hF
    obtain ⟨t2, a1, b1⟩ := kx E ce q u t T'.heap (locs ++ L) e1.symm (by rw [← e2]; exact X'.warmed.alike) hp hb k1 k2 k3 (by rw [e1]; exact hce) hcv hcl T' rfl X'
    exact ⟨t2, st.trans a1, b1⟩
theorem vx_callv {S SX : Type} {post : S → Prop} {px : SX → Prop} {B : S → State → Prop} {BX : String → SX → State → Prop} {AX : Nat → Prop} (hr : vx_Run p l e R s m args below meth c H locs cells slots mc ms (F0 m pc ls st0) rest (va_Qv post B A1 a) (vx_X px BX AX) free) (hS : va_S A0 H0 H locs) (hA : ∀ q, q < H.size → A1 q → A0 q) (hf : ∀ q, free q → A0 q) (hAX : ∀ q, q < H.size → AX q → A0 q)
    (kx : ∀ (E : String) (ce : Cell) (q9 : Addr) (u : SX) (t : State) (H1 : Heap) (locs1 : List Loc), t.heap = H1 → s.vm.Alike t.vm → px u → BX E u t → H.size ≤ H1.size → (∀ q : Nat, q < H.size → ¬ AX q → H1[q]? = H[q]?) → va_S A0 H0 H1 locs1 → H1[q9]? = some ce → ce.vm = .none → s.vm.findClass E = some ce.cls → vx_W p l e R s m args below meth c H1 locs1 (cells + mc) (slots + ms) Q (F0 m pc ls rest) q9)
    (kk : ∀ (u : S) (t : State) (H1 : Heap) (locs1 : List Loc), t.heap = H1 → s.vm.Alike t.vm → post u → B u t → H.size ≤ H1.size → (∀ q : Nat, q < H.size → ¬ A1 q → H1[q]? = H[q]?) → va_S A0 H0 H1 locs1 → W p l e R s m args below meth c H1 locs1 (cells + mc) (slots + ms) Q (F0 m (pc + 3) ls (rest))) : W p l e R s m args below meth c H locs cells slots Q (F0 m pc ls st0) := by
  intro T hT X
  rcases hr T hT X with ⟨v, st₀, t, T', L, h0, X', hL, e1, e2, ⟨⟨u, hv, hp, hb⟩, hF⟩, st⟩ | ⟨q, st₀, t, T', L, E, ce, h0, X', hL, e1, e2, ⟨u, hp, hb, hF⟩, hce, hcv, hcl, st⟩
  · cases hv
    obtain ⟨k1, k2, k3⟩ := vx_keep h0 e1 hS hA hf hL hF
    obtain ⟨t2, a1, b1⟩ := kk u t T'.heap (locs ++ L) e1.symm (by rw [← e2]; exact X'.warmed.alike) hp hb k1 k2 k3 T' rfl X'
    exact ⟨t2, st t2 a1, b1⟩
  · obtain ⟨k1, k2, k3⟩ := vx_keep h0 e1 hS hAX hf hL hF
    obtain ⟨t2, a1, b1⟩ := kx E ce q u t T'.heap (locs ++ L) e1.symm (by rw [← e2]; exact X'.warmed.alike) hp hb k1 k2 k3 (by rw [e1]; exact hce) hcv hcl T' rfl X'
    exact ⟨t2, st.trans a1, b1⟩
/-- caught by the row x of this method's table; the rows ahead don't take it -/
theorem vx_catch {own name : String} {E : String} {ce : Cell} {q : Addr} (hown : s.vm.findClass own = some m.cls) (pre : List ExceptionTableEntry) (x : ExceptionTableEntry) (suf : List ExceptionTableEntry) (hsplit : c.exceptionTable.toList = pre ++ x :: suf)
    (hpass : ∀ z ∈ pre, covers z pc = false ∨ (z.catchType ≠ 0 ∧ ∃ nm : String, (Cond.classLink own z.catchType nm).before args s = true ∧ va_Nc E nm s)) (hx : covers x pc = true) (h0 : x.catchType ≠ 0)
    (hlink : (Cond.classLink own x.catchType name).before args s = true) (hcast : (Cond.castable E name).before args s = true) (hcell : H[q]? = some ce) (hv : ce.vm = .none) (hcl : s.vm.findClass E = some ce.cls)
    (kk : W p l e R s m args below meth c H locs cells slots Q (F0 m x.handlerPc ls [.ref q])) : vx_W p l e R s m args below meth c H locs cells slots Q (F0 m pc ls rest) q := by
  intro T hT X
  have hpl : e.platform.magicAccessors = ({} : Platform).magicAccessors := by rw [X.admits.platform]
  obtain ⟨c3, c4, hc3, hc4, hasg⟩ := Cond.castable_spec hcast
  cases Option.some.inj (hc3.symm.trans hcl)
  obtain ⟨c5, hc5, hcl5⟩ := Cond.classLink_spec hown hlink e.platform hpl
  cases Option.some.inj (hc4.symm.trans hc5)
  obtain ⟨vm', X', st⟩ := X.thenCaughtThrough q (g := F0 m pc ls rest) rfl (Steps.refl _) (by rw [hT]; exact hcell) (by rw [hv]; rfl) (by obtain ⟨k9, h9, -⟩ := Vm.findClass_spec hcl; exact ⟨k9, h9⟩) pre x suf hsplit
    (fun z hz => by
      rcases hpass z hz with h | ⟨hz0, nm, hl1, hn1⟩
      · exact Or.inl h
      · obtain ⟨c6, hc6, hcl6⟩ := Cond.classLink_spec hown hl1 e.platform hpl
        obtain ⟨a8, b8, h1, h2, h3⟩ := hn1
        cases Option.some.inj (h1.symm.trans hcl)
        cases Option.some.inj (h2.symm.trans hc6)
        exact Or.inr ⟨hz0, _, hcl6, h3⟩) hx (Or.inr ⟨h0, c4, hcl5, hasg⟩)
  obtain ⟨t, a1, b1⟩ := kk (T.setVm vm') hT X'
  exact ⟨t, st.trans a1, b1⟩
end Rows
section Ends
variable {p : Program} {l : Launch} {e : Env} {R : Room} {s : State} {m : MethodId} {args : Array Value} {below : List Frame} {meth : Method} {c : Code} {H : Heap} {locs : List Loc} {cells slots : Nat} {Q : State → Prop}
variable {mc ms : Nat} {free : Addr → Prop} {A0 A1 : Nat → Prop} {H0 : Heap} {a : Array Value} {ls : Array Slot} {st0 rest : List Value}
variable {Qc : Array Value → State → Outcome → State → Prop} {XC : String → State → State → Prop}
/-- what a body that may throw owes at its end -/
def vx_MQ (below : List Frame) (Qc : Array Value → State → Outcome → State → Prop) (XC : String → State → State → Prop) (a : Array Value) (s : State) (mc ms : Nat) (free : Addr → Prop) : State → Prop := fun t =>
  ∃ o, t.status = .running ∧ Ended t below o ∧ vx_Q Qc XC mc ms free a s o t
theorem vx_ret {g : JFrame} {mc ms : Nat} (k : W p l e R s m args below meth c H locs cells slots (MQ below Qc args s mc ms free) g) : W p l e R s m args below meth c H locs cells slots (vx_MQ below Qc XC args s mc ms free) g := by
  intro T hT X
  obtain ⟨t, a1, o, b1, b2, b3, b4⟩ := k T hT X
  exact ⟨t, a1, o, b1, b2, Or.inl ⟨b3, b4⟩⟩
/-- not caught here: it goes on to the caller -/
theorem vx_widen {g : JFrame} {q : Addr} {k n : Nat} (h1 : cells ≤ k) (h2 : slots ≤ n) (kk : vx_W p l e R s m args below meth c H locs k n Q g q) : vx_W p l e R s m args below meth c H locs cells slots Q g q := fun T hT X => kk T hT (stand_widen X h1 h2)
theorem vx_out {pc : Nat} {E : String} {ce : Cell} {q : Addr} {mc ms : Nat} (hout : ∀ x ∈ c.exceptionTable.toList, covers x pc = false) (hlocks : meth.locks = false) (hcell : H[q]? = some ce) (hv : ce.vm = .none) (hcl : s.vm.findClass E = some ce.cls)
    (hx : ∀ t : State, t.heap = H → s.vm.Alike t.vm → XC E s t) (hf : ∀ z ∈ locs, free z.base) (hc : cells ≤ mc) (hs : slots ≤ ms) :
    vx_W p l e R s m args below meth c H locs cells slots (vx_MQ below Qc XC args s mc ms free) (F0 m pc ls rest) q := by
  intro T hT X
  obtain ⟨st1, hrun, hend, hW, hsm⟩ := X.leaveThrown q (g := F0 m pc ls rest) rfl rfl rfl hout hlocks
  have hcell9 : (T.setFrames (.throwing q :: below)).heap[q]? = some ce := by
    show T.heap[q]? = some ce
    rw [hT]; exact hcell
  exact ⟨_, st1, .threw q, hrun, hend, Or.inr ⟨q, rfl, E, ce, locs, hx _ hT hW.alike, hcell9, hv, hcl, hW, hsm.mono hc hs, hf⟩⟩
theorem vx_frame {U : State} {k n : Nat} (h : s.sameButNew ({ U with vm := s.vm } : State) locs k n) : s.heap.size ≤ U.heap.size ∧ ∀ q : Nat, q < s.heap.size → (∀ z ∈ locs, z.base ≠ q) → U.heap[q]? = s.heap[q]? := by
  obtain ⟨-, h2, -, -, -, h6⟩ := h
  refine ⟨h2, fun q hq hz => ?_⟩
  obtain ⟨c9, e1, e2, e3, e4⟩ := h6 q _ (Array.getElem?_eq_getElem hq)
  have hs : c9.slots = (s.heap[q]).slots := Array.ext_getElem? fun i => e4 i fun hm => hz _ hm rfl
  have h9 : c9 = s.heap[q] := by
    rw [hs] at e2
    exact e2
  have e5 : U.heap[q]? = some c9 := e1
  rw [e5, h9, Array.getElem?_eq_getElem hq]
/-- the words of a throw but the four that speak of the heap -/
def vx_no (w : Cond) : Bool := decide (w ≠ .isRef (.static Bundle.tN "UNASSIGNED_STACK" Bundle.steD)) && decide (w ≠ .isRef (.static Bundle.tN "SUPPRESSED_SENTINEL" Bundle.listD)) && decide (w ≠ .laysStatic Bundle.tN "UNASSIGNED_STACK" Bundle.steD) && decide (w ≠ .laysStatic Bundle.tN "SUPPRESSED_SENTINEL" Bundle.listD)
def vx_at0 (own : String) (ic : Nat) (X : String) (names : List String) : List Cond := (Bundle.ownAtoms0 own ic X names).filter vx_no
def vx_atS (own : String) (ic : Nat) (X : String) (names : List String) : List Cond := (Bundle.ownAtoms own ic X names).filter vx_no
/-- a word that the tables alone decide, or a good one -/
def vx_ot (w : Cond) : Bool := w.onTables || goodWord w
theorem vx_ot_at {args a' : Array Value} {s U : State} {w : Cond} (hW : s.WarmedH U.vm) (hvm : s.vm = U.vm) (hg : vx_ot w = true) (h : w.before args s = true) : w.before a' U = true := by
  simp only [vx_ot, Bool.or_eq_true] at hg
  rcases hg with hg | hg
  · exact va_tabs hg hvm h
  · exact word_at hW (good_of_word hg) h
/-- a list's words: the good ones out of the method's own list, the others by premises of their own -/
theorem vx_hat {args : Array Value} {s : State} {L B : List Cond} (h1 : ∀ w ∈ L.filter goodWord, w.before args s = true) (h2 : ∀ w ∈ L.filter (fun w => !goodWord w), w ∈ B) (h3 : ∀ w ∈ B, w.before args s = true) : ∀ w ∈ L, w.before args s = true := by
  intro w hw
  by_cases g : goodWord w = true
  · exact h1 w (List.mem_filter.mpr ⟨hw, g⟩)
  · refine h3 w (h2 w (List.mem_filter.mpr ⟨hw, ?_⟩))
    show (!goodWord w) = true
    cases hgw : goodWord w
    · rfl
    · exact absurd hgw g
theorem vx_c {args : Array Value} {s : State} {w : Cond} {B : List Cond} (h : w.before args s = true) (t : ∀ w ∈ B, w.before args s = true) : ∀ w' ∈ w :: B, w'.before args s = true := fun w' h' => (List.mem_cons.mp h').elim (fun e => by rw [e]; exact h) (t w')
theorem vx_n {args : Array Value} {s : State} : ∀ w ∈ ([] : List Cond), w.before args s = true := fun _ h => nomatch h
theorem vx_own {args : Array Value} {s : State} {L : List Cond} (h1 : ∀ w ∈ L.filter vx_no, w.before args s = true)
    (hU : (Cond.isRef (.static Bundle.tN "UNASSIGNED_STACK" Bundle.steD)).before args s = true) (hN : (Cond.isRef (.static Bundle.tN "SUPPRESSED_SENTINEL" Bundle.listD)).before args s = true)
    (lU : (Cond.laysStatic Bundle.tN "UNASSIGNED_STACK" Bundle.steD).before args s = true) (lN : (Cond.laysStatic Bundle.tN "SUPPRESSED_SENTINEL" Bundle.listD).before args s = true) : ∀ w ∈ L, w.before args s = true := by
  intro w hw
  by_cases e1 : w = .isRef (.static Bundle.tN "UNASSIGNED_STACK" Bundle.steD)
  · rw [e1]; exact hU
  · by_cases e2 : w = .isRef (.static Bundle.tN "SUPPRESSED_SENTINEL" Bundle.listD)
    · rw [e2]; exact hN
    · by_cases e3 : w = .laysStatic Bundle.tN "UNASSIGNED_STACK" Bundle.steD
      · rw [e3]; exact lU
      · by_cases e4 : w = .laysStatic Bundle.tN "SUPPRESSED_SENTINEL" Bundle.listD
        · rw [e4]; exact lN
        · exact h1 w (List.mem_filter.mpr ⟨hw, by unfold vx_no; rw [decide_eq_true e1, decide_eq_true e2, decide_eq_true e3, decide_eq_true e4]; rfl⟩)
/-- where a static field lies, its class's statics cell in H -/
def vx_L (C n d : String) (A : Nat → Prop) (U : State) (H : Heap) : Prop := ∃ (c : ClassId) (k : Class) (i : Nat) (f : Field) (a : Nat) (cell : Cell), U.vm.findClass C = some c ∧ U.fieldFound? C n d = some (c, k, i, f) ∧ f.isStatic = true ∧ k.statics = some a ∧ H[a]? = some cell ∧ cell.vm.isStatics = true ∧ cell.cls = c ∧ f.slot < cell.slots.size ∧ k.staticTypes[f.slot]? = some f.type ∧ ¬ A a
theorem vx_L.moved {C n d : String} {A : Nat → Prop} {u U : State} {H : Heap} (hvm : u.vm.Alike U.vm) (h : vx_L C n d A u H) : vx_L C n d A U H := by
  obtain ⟨c, k, i, f, a, cell, h1, h2, h3, h4, h5, h6, h7, h8, h9, h10⟩ := h
  obtain ⟨k', hi', he⟩ := State.fieldFound?_setVm hvm h2
  exact ⟨c, k', i, f, a, cell, by rw [hvm.findClass]; exact h1, hi', h3, by rw [he]; exact h4, h5, h6, h7, h8, by rw [he]; exact h9, h10⟩
theorem vx_L.kept {C n d : String} {A : Nat → Prop} {U : State} {H H1 : Heap} (h : vx_L C n d A U H) (hq : ∀ a : Nat, a < H.size → ¬ A a → H1[a]? = H[a]?) : vx_L C n d A U H1 := by
  obtain ⟨c, k, i, f, a, cell, h1, h2, h3, h4, h5, h6, h7, h8, h9, h10⟩ := h
  exact ⟨c, k, i, f, a, cell, h1, h2, h3, h4, by rw [hq a (Array.getElem?_eq_some_iff.mp h5).1 h10]; exact h5, h6, h7, h8, h9, h10⟩
theorem vx_L.narrow {C n d : String} {A B : Nat → Prop} {U : State} {H : Heap} (h : vx_L C n d A U H) (hAB : ∀ q, B q → A q) : vx_L C n d B U H := by
  obtain ⟨c, k, i, f, a, cell, h1, h2, h3, h4, h5, h6, h7, h8, h9, h10⟩ := h
  exact ⟨c, k, i, f, a, cell, h1, h2, h3, h4, h5, h6, h7, h8, h9, fun z => h10 (hAB _ z)⟩
theorem vx_L.word {C n d : String} {A : Nat → Prop} {s : State} {args : Array Value} (h : vx_L C n d A s s.heap) : (Cond.laysStatic C n d).before args s = true := by
  obtain ⟨c, k, i, f, a, cell, h1, h2, h3, h4, h5, h6, h7, h8, h9, -⟩ := h
  show (Cond.laysStatic C n d).holds args s none s [] = true
  exact Cond.laysStatic_of h1 h2 h3 h4 h5 h6 h7 h8 h9
/-- .. and what it holds: null or some reference -/
def vx_Zq (C n d : String) (A : Nat → Prop) (U : State) (H : Heap) : Prop := va_Zq C n d A U H ∧ vx_L C n d A U H
theorem vx_Zq.moved {C n d : String} {A : Nat → Prop} {u U : State} {H : Heap} (hvm : u.vm.Alike U.vm) (h : vx_Zq C n d A u H) : vx_Zq C n d A U H := ⟨va_Zq.moved hvm h.1, vx_L.moved hvm h.2⟩
theorem vx_Zq.kept {C n d : String} {A : Nat → Prop} {U : State} {H H1 : Heap} (h : vx_Zq C n d A U H) (hq : ∀ a : Nat, a < H.size → ¬ A a → H1[a]? = H[a]?) : vx_Zq C n d A U H1 := ⟨va_Zq.kept h.1 hq, vx_L.kept h.2 hq⟩
theorem vx_Zq.narrow {C n d : String} {A B : Nat → Prop} {U : State} {H : Heap} (h : vx_Zq C n d A U H) (hAB : ∀ q, B q → A q) : vx_Zq C n d B U H := ⟨va_Zq.narrow h.1 hAB, vx_L.narrow h.2 hAB⟩
theorem vx_Zqof {args : Array Value} {s : State} {C n d : String} {A : Nat → Prop} (hl : (Cond.laysStatic C n d).before args s = true) (hini : (Cond.initialized C).before args s = true) (h : (Cond.isRef (.static C n d)).before args s = true) (hA : ∀ a : Nat, a < s.heap.size → ¬ A a) : vx_Zq C n d A s s.heap := by
  refine ⟨va_Zqof hl hini h hA, ?_⟩
  obtain ⟨c, k, i, f, a, cell, h1, h2, h3, h4, h5, h6, h7, h8, h9⟩ := Cond.laysStatic_spec hl
  exact ⟨c, k, i, f, a, cell, h1, h2, h3, h4, h5, h6, h7, h8, h9, hA a (Array.getElem?_eq_some_iff.mp h5).1⟩
theorem vx_isRef {C n d : String} {v : Value} {A : Nat → Prop} {s : State} {args : Array Value} (h : va_Z C n d v A s s.heap) (hv : v.isRef = true) : (Cond.isRef (.static C n d)).before args s = true := by
  obtain ⟨cf, kf, fi, f, a, cell, h1, h2, h3, h4, h5, h6, h7, -⟩ := h
  have he : (Term.static C n d).eval args s none [] s = some v := by
    simp [Term.eval, State.fieldNamed?, h1, h2, h4, h5, h6, h7]
  simp only [Cond.before, Cond.holds, Cond.value, he]
  cases v <;> simp_all [Value.isRef]
theorem vx_isRefq {C n d : String} {A : Nat → Prop} {s : State} {args : Array Value} (h : va_Zq C n d A s s.heap) : (Cond.isRef (.static C n d)).before args s = true := by
  rcases h with h | ⟨t, h⟩
  · exact vx_isRef h rfl
  · exact vx_isRef h rfl
/-- the same frame, seen from here: as if the method were called anew in this heap -/
theorem vx_rebase {T : State} (X : Stand p l e R s m args below meth c T locs cells slots) {R' : Room} (hf : R'.frames ≤ R.frames) (hl : R'.locals ≤ R.locals) (hc : cells + R'.cells ≤ R.cells) (hs : slots + R'.slots ≤ R.slots) :
    Stand p l e R' ((T.setVm s.vm).setFrames (.invoking m args :: below)) m args below meth c T [] 0 0 := by
  have htop : (T.setVm s.vm).topJava?.isSome := X.here.top
  have hF : ((T.setVm s.vm).setFrames (.invoking m args :: below)).frames = .invoking m args :: below := State.frames_setFrames _ (State.cur_lt_of_top htop)
  obtain ⟨g₀, hg0⟩ := Option.isSome_iff_exists.mp htop
  obtain ⟨r, hr⟩ := State.topJava?_eq_some.mp hg0
  have hl9 : e.platform.stackLimits (T.setVm s.vm).me = e.platform.stackLimits s.me := X.limits
  have hb9 : (T.setVm s.vm).me.stackBytes = s.me.stackBytes := X.bytes
  refine ⟨X.admits, X.cas, X.clock, hF, ?_, X.hears, X.method, X.code, X.here, X.tail, X.warmed, ?_, ?_, ?_⟩
  · have h := X.room
    have hU : ((T.setVm s.vm).setFrames (.invoking m args :: below)).localsInUse = s.localsInUse := by
      rw [State.localsInUse_invoking hF (meth := meth) (c := c) X.method X.code, State.localsInUse_invoking X.frames X.method X.code]
    simp only [State.hasRoom, Bool.and_eq_true, decide_eq_true_eq] at h ⊢
    obtain ⟨⟨⟨⟨h1, h2, h3, h4, h5, h6⟩, h7⟩, h8⟩, h9⟩ := h
    rw [X.frames, List.length_cons] at h2 h3
    have q1 := X.heapSize
    have q2 := X.used
    simp only [hF, hU, List.length_cons, State.stackLimits_setFrames, State.stackBytes_setFrames, hl9, hb9]
    refine ⟨⟨⟨⟨by omega, by omega, by omega, by omega, by omega, h6⟩, ?_⟩, ?_⟩, X.book⟩
    · show T.heap.size + R'.cells ≤ e.platform.maxCells
      omega
    · show T.slotsUsed + R'.slots ≤ e.platform.maxSlots
      omega
  · rw [State.stackLimits_setFrames]; rfl
  · rw [State.stackBytes_setFrames]; rfl
  · refine ⟨?_, Nat.le_refl _, Nat.le_refl _, ?_, ?_, fun a c9 h9 => ⟨c9, h9, rfl, rfl, fun _ _ => rfl⟩⟩
    · obtain ⟨t, ht, -⟩ := State.frames_cons hr
      show T.setVm s.vm = { ((T.setVm s.vm).setFrames (.invoking m args :: below)).setFrames (T.setVm s.vm).frames with heap := T.heap, slotsUsed := T.slotsUsed }
      rw [State.setFrames_setFrames, State.setFrames_self ht]
      rfl
    · show T.slotsUsed = T.slotsUsed + ((T.heap.toList.drop T.heap.size).map (·.slots.size)).sum
      rw [List.drop_eq_nil_of_le (Nat.le_of_eq Array.length_toList)]
      rfl
    · show ((T.heap.toList.drop T.heap.size).map (·.slots.size)).sum ≤ 0
      rw [List.drop_eq_nil_of_le (Nat.le_of_eq Array.length_toList)]
      exact Nat.le_refl _
/-- 'throw new E()': new; dup; invokespecial; athrow -/
theorem vx_throw0 {cc : ByteArray} {pc : Nat} (hexec : p.tables.exec = Jvm.exec) (hb : c.code = cc) (hl : l.stackTraces = false) {own cls : String} {names : List String} {ik ic mc ms : Nat} {A : Nat → Prop}
    (hown : s.vm.findClass own = some m.cls) (hcls : Bundle.fit cls = true) (hnames : ∀ n ∈ names, Bundle.fit n = true)
    (hk : (Cond.classLink own ik cls).before args s = true) (hini : (Cond.initialized cls).before args s = true) (hat : ∀ w ∈ vx_at0 own ic cls names, w.before args s = true)
    (hgood : ∀ w ∈ Cond.classLink own ik cls :: Cond.initialized cls :: vx_at0 own ic cls names, vx_ot w = true)
    (hU : vx_Zq Bundle.tN "UNASSIGNED_STACK" Bundle.steD A s s.heap) (hN : vx_Zq Bundle.tN "SUPPRESSED_SENTINEL" Bundle.listD A s s.heap) (hS : va_S A s.heap H locs) (hsize : ls.size = c.maxLocals)
    (d0 : decode cc pc = .ok (.new ik, 3)) (d3 : decode cc (pc + 3) = .ok (.dup, 1)) (d4 : decode cc (pc + 4) = .ok (.invokespecial ic, 3)) (d7 : decode cc (pc + 7) = .ok (.athrow, 1))
    (hout : ∀ x ∈ c.exceptionTable.toList, covers x (pc + 7) = false)
    (hRframes : names.length + 3 < R.frames) (hRlocals : (rest.map fun v => v.category).sum + (13 * (names.length + 1) + 42) ≤ R.locals) (hRcells : cells + 1 ≤ R.cells) (hRslots : slots + 6 ≤ R.slots) (hlocks : meth.locks = false)
    (hx : ∀ t : State, s.vm.Alike t.vm → H.size ≤ t.heap.size → (∀ q : Nat, q < H.size → t.heap[q]? = H[q]?) → XC cls s t)
    (hf : ∀ z ∈ locs, free z.base) (hc : cells + 1 ≤ mc) (hs : slots + 6 ≤ ms) :
    W p l e R s m args below meth c H locs cells slots (vx_MQ below Qc XC args s mc ms free) (F0 m pc ls rest) := by
  intro T hT X
  have htr : e.platform.stackTraces = false := (show e.platform.stackTraces = l.stackTraces by rw [X.admits.platform]).trans hl
  have Y := vx_rebase X (R' := { frames := R.frames, locals := R.locals, cells := 1, slots := 6 }) (Nat.le_refl _) (Nat.le_refl _) hRcells hRslots
  obtain ⟨s', hA⟩ : ∃ z, z = (T.setVm s.vm).setFrames (.invoking m args :: below) := ⟨_, rfl⟩
  rw [← hA] at Y
  have hvm : s'.vm = s.vm := by rw [hA]; rfl
  have hhp : s'.heap = H := by rw [hA]; exact hT
  have hW0 : s.WarmedH s'.vm := by rw [hvm]; exact State.WarmedH.refl s
  have hat' : ∀ w ∈ vx_at0 own ic cls names, w.before args s' = true := fun w hw => vx_ot_at hW0 hvm.symm (hgood w (List.mem_cons_of_mem _ (List.mem_cons_of_mem _ hw))) (hat w hw)
  have hk' : (Cond.classLink own ik cls).before args s' = true := vx_ot_at hW0 hvm.symm (hgood _ List.mem_cons_self) hk
  have hini' : (Cond.initialized cls).before args s' = true := vx_ot_at hW0 hvm.symm (hgood _ (List.mem_cons_of_mem _ List.mem_cons_self)) hini
  have hU' : vx_Zq Bundle.tN "UNASSIGNED_STACK" Bundle.steD A s' s'.heap := by rw [hhp]; exact vx_Zq.moved hW0.alike (hU.kept hS.2.1)
  have hN' : vx_Zq Bundle.tN "SUPPRESSED_SENTINEL" Bundle.listD A s' s'.heap := by rw [hhp]; exact vx_Zq.moved hW0.alike (hN.kept hS.2.1)
  have h : ∀ w ∈ Bundle.ownAtoms0 own ic cls names, w.before args s' = true := vx_own hat' (vx_isRefq hU'.1) (vx_isRefq hN'.1) hU'.2.word hN'.2.word
  have hown' : s'.vm.findClass own = some m.cls := by rw [hvm]; exact hown
  have hins : (Cond.instantiable cls 6).before args s' = true := h _ (by simp [Bundle.ownAtoms0])
  obtain ⟨vm₁, cX, kX, hfX, hkX, -, -, X₁, st1⟩ := Y.newCold hexec (own := own) (C := cls) (index := ik) (n := 6) hown' hk' hins hini'
    (g := F0 m pc ls rest) rfl (by rw [hb]; exact d0) (Nat.le_refl _) (Nat.le_refl _)
  generalize hT1 : (T.setVm vm₁).pushCell { cls := cX, slots := kX.instanceTypes.map defaultValue, vm := .none } = T1 at X₁ st1
  have hcat : (Value.ref T.heap.size).category = 1 := rfl
  have hcellA : T1.heap[T.heap.size]? = some (freshCell cX kX) := by rw [← hT1]; exact State.heap_pushCell_size _ _
  have d3' : decode c.code (pc + 3) = .ok (.dup, 1) := by rw [hb]; exact d3
  obtain ⟨U, hsteps, hrun, hend, hW, hsame, ce, hce, hO⟩ := X₁.ctorThrow0 hexec htr (own := own) (cls := cls) (names := names) (ic := ic) hown' hcls hnames h (fun x hx => nomatch hx) hfX hkX hcellA (by rw [hhp, hT]; exact Nat.le_refl _)
    (g := { method := m, pc := pc + 4, locals := ls, stack := .ref T.heap.size :: .ref T.heap.size :: rest, locked := none }) rfl hsize rfl rfl (rest := rest) rfl
    (by rw [hb]; exact d4) (by rw [hb]; exact d7) hout hRframes (by simp only [List.map_cons, List.sum_cons, hcat]; omega) hlocks
  obtain ⟨f1, f2⟩ := vx_frame hsame
  rw [hhp] at f1 f2
  have hWs : s.WarmedH U.vm := State.WarmedH.trans hW0 hW
  have hcl : s.vm.findClass cls = some ce.cls := by
    have h9 := hO.cls
    rw [hvm] at h9
    exact h9
  have hall : s.sameButNew ({ U with vm := s.vm } : State) locs mc ms := by
    subst hA
    obtain ⟨e1, e2⟩ := hsame
    rw [State.setFrames_setFrames] at e1
    have h2 : (T.setVm s.vm).sameButNew ({ U with vm := s.vm } : State) [] (0 + 1) (0 + 6) := ⟨e1, e2⟩
    have h3 := X.same.trans h2
    rw [List.append_nil] at h3
    exact h3.mono hc hs
  refine ⟨U, ?_, .threw T.heap.size, hrun, hend, Or.inr ⟨T.heap.size, rfl, cls, ce, locs, hx U hWs.alike f1 (fun q hq => f2 q hq (fun z hz => nomatch hz)), hce, hO.vm, hcl, hWs, hall, hf⟩⟩
  refine st1 _ ?_
  show Steps p.tables e below (T1.setTop { method := m, pc := pc + 3, locals := ls, stack := .ref T.heap.size :: rest, locked := none }) _
  jvm_step X₁.here [X₁.here.top, hexec, d3', Value.category]
  exact hsteps
/-- 'throw new E("text")': new; dup; ldc; invokespecial; athrow -/
theorem vx_throwS {cc : ByteArray} {pc : Nat} (hexec : p.tables.exec = Jvm.exec) (hb : c.code = cc) (hl : l.stackTraces = false) {own cls text : String} {names : List String} {ik is ic mc ms sa : Nat} {A : Nat → Prop}
    (hown : s.vm.findClass own = some m.cls) (hcls : Bundle.fit cls = true) (hnames : ∀ n ∈ names, Bundle.fit n = true)
    (hk : (Cond.classLink own ik cls).before args s = true) (hini : (Cond.initialized cls).before args s = true) (hstr : vk_R own is text sa s) (hat : ∀ w ∈ vx_atS own ic cls names, w.before args s = true)
    (hgood : ∀ w ∈ Cond.classLink own ik cls :: Cond.initialized cls :: vx_atS own ic cls names, vx_ot w = true)
    (hU : vx_Zq Bundle.tN "UNASSIGNED_STACK" Bundle.steD A s s.heap) (hN : vx_Zq Bundle.tN "SUPPRESSED_SENTINEL" Bundle.listD A s s.heap) (hS : va_S A s.heap H locs) (hsize : ls.size = c.maxLocals)
    (d0 : decode cc pc = .ok (.new ik, 3)) (d3 : decode cc (pc + 3) = .ok (.dup, 1)) (d4 : decode cc (pc + 4) = .ok (.ldc is, 2)) (d6 : decode cc (pc + 6) = .ok (.invokespecial ic, 3)) (d9 : decode cc (pc + 9) = .ok (.athrow, 1))
    (hout : ∀ x ∈ c.exceptionTable.toList, covers x (pc + 9) = false)
    (hRframes : names.length + 3 < R.frames) (hRlocals : (rest.map fun v => v.category).sum + (13 * (names.length + 1) + 43) ≤ R.locals) (hRcells : cells + 1 ≤ R.cells) (hRslots : slots + 6 ≤ R.slots) (hlocks : meth.locks = false)
    (hx : ∀ t : State, s.vm.Alike t.vm → H.size ≤ t.heap.size → (∀ q : Nat, q < H.size → t.heap[q]? = H[q]?) → XC cls s t)
    (hf : ∀ z ∈ locs, free z.base) (hc : cells + 1 ≤ mc) (hs : slots + 6 ≤ ms) :
    W p l e R s m args below meth c H locs cells slots (vx_MQ below Qc XC args s mc ms free) (F0 m pc ls rest) := by
  intro T hT X
  have htr : e.platform.stackTraces = false := (show e.platform.stackTraces = l.stackTraces by rw [X.admits.platform]).trans hl
  have Y := vx_rebase X (R' := { frames := R.frames, locals := R.locals, cells := 1, slots := 6 }) (Nat.le_refl _) (Nat.le_refl _) hRcells hRslots
  obtain ⟨s', hA⟩ : ∃ z, z = (T.setVm s.vm).setFrames (.invoking m args :: below) := ⟨_, rfl⟩
  rw [← hA] at Y
  have hvm : s'.vm = s.vm := by rw [hA]; rfl
  have hhp : s'.heap = H := by rw [hA]; exact hT
  have hW0 : s.WarmedH s'.vm := by rw [hvm]; exact State.WarmedH.refl s
  have hat' : ∀ w ∈ vx_atS own ic cls names, w.before args s' = true := fun w hw => vx_ot_at hW0 hvm.symm (hgood w (List.mem_cons_of_mem _ (List.mem_cons_of_mem _ hw))) (hat w hw)
  have hk' : (Cond.classLink own ik cls).before args s' = true := vx_ot_at hW0 hvm.symm (hgood _ List.mem_cons_self) hk
  have hini' : (Cond.initialized cls).before args s' = true := vx_ot_at hW0 hvm.symm (hgood _ (List.mem_cons_of_mem _ List.mem_cons_self)) hini
  have hU' : vx_Zq Bundle.tN "UNASSIGNED_STACK" Bundle.steD A s' s'.heap := by rw [hhp]; exact vx_Zq.moved hW0.alike (hU.kept hS.2.1)
  have hN' : vx_Zq Bundle.tN "SUPPRESSED_SENTINEL" Bundle.listD A s' s'.heap := by rw [hhp]; exact vx_Zq.moved hW0.alike (hN.kept hS.2.1)
  have h : ∀ w ∈ Bundle.ownAtoms own ic cls names, w.before args s' = true := vx_own hat' (vx_isRefq hU'.1) (vx_isRefq hN'.1) hU'.2.word hN'.2.word
  have hown' : s'.vm.findClass own = some m.cls := by rw [hvm]; exact hown
  have hins : (Cond.instantiable cls 6).before args s' = true := h _ (by simp [Bundle.ownAtoms])
  obtain ⟨vm₁, cX, kX, hfX, hkX, -, -, X₁, st1⟩ := Y.newCold hexec (own := own) (C := cls) (index := ik) (n := 6) hown' hk' hins hini'
    (g := F0 m pc ls rest) rfl (by rw [hb]; exact d0) (Nat.le_refl _) (Nat.le_refl _)
  generalize hT1 : (T.setVm vm₁).pushCell { cls := cX, slots := kX.instanceTypes.map defaultValue, vm := .none } = T1 at X₁ st1
  have hcat : (Value.ref T.heap.size).category = 1 := rfl
  have hcellA : T1.heap[T.heap.size]? = some (freshCell cX kX) := by rw [← hT1]; exact State.heap_pushCell_size _ _
  have d3' : decode c.code (pc + 3) = .ok (.dup, 1) := by rw [hb]; exact d3
  have d4' : decode c.code (pc + 4) = .ok (.ldc is, 2) := by rw [hb]; exact d4
  have hstr' : vk_R own is text sa s' := vk_R.warm hW0 hstr
  obtain ⟨U, hsteps, hrun, hend, hW, hsame, ce, hce, hO⟩ := X₁.ctorThrowS hexec htr (own := own) (cls := cls) (names := names) (ic := ic) hown' hcls hnames h (fun x hx => nomatch hx) hfX hkX hcellA (by rw [hhp, hT]; exact Nat.le_refl _) (msg := .ref sa) rfl
    (g := { method := m, pc := pc + 6, locals := ls, stack := .ref sa :: .ref T.heap.size :: .ref T.heap.size :: rest, locked := none }) rfl hsize rfl rfl (rest := rest) rfl
    (by rw [hb]; exact d6) (by rw [hb]; exact d9) hout hRframes (by simp only [List.map_cons, List.sum_cons, hcat]; omega) hlocks
  obtain ⟨f1, f2⟩ := vx_frame hsame
  rw [hhp] at f1 f2
  have hWs : s.WarmedH U.vm := State.WarmedH.trans hW0 hW
  have hcl : s.vm.findClass cls = some ce.cls := by
    have h9 := hO.cls
    rw [hvm] at h9
    exact h9
  have hall : s.sameButNew ({ U with vm := s.vm } : State) locs mc ms := by
    subst hA
    obtain ⟨e1, e2⟩ := hsame
    rw [State.setFrames_setFrames] at e1
    have h2 : (T.setVm s.vm).sameButNew ({ U with vm := s.vm } : State) [] (0 + 1) (0 + 6) := ⟨e1, e2⟩
    have h3 := X.same.trans h2
    rw [List.append_nil] at h3
    exact h3.mono hc hs
  refine ⟨U, ?_, .threw T.heap.size, hrun, hend, Or.inr ⟨T.heap.size, rfl, cls, ce, locs, hx U hWs.alike f1 (fun q hq => f2 q hq (fun z hz => nomatch hz)), hce, hO.vm, hcl, hWs, hall, hf⟩⟩
  refine st1 _ ?_
  show Steps p.tables e below (T1.setTop { method := m, pc := pc + 3, locals := ls, stack := .ref T.heap.size :: rest, locked := none }) _
  jvm_step X₁.here [X₁.here.top, hexec, d3', Value.category]
  exact X₁.ldcString hexec (own := own) (text := text) (index := is) (a := sa) hown' hstr'.1 hstr'.2
    (g := { method := m, pc := pc + 4, locals := ls, stack := .ref T.heap.size :: .ref T.heap.size :: rest, locked := none }) rfl d4' _ hsteps
/-- 'throw new E("text")', the text by a wide index -/
theorem vx_throwSW {cc : ByteArray} {pc : Nat} (hexec : p.tables.exec = Jvm.exec) (hb : c.code = cc) (hl : l.stackTraces = false) {own cls text : String} {names : List String} {ik is ic mc ms sa : Nat} {A : Nat → Prop}
    (hown : s.vm.findClass own = some m.cls) (hcls : Bundle.fit cls = true) (hnames : ∀ n ∈ names, Bundle.fit n = true)
    (hk : (Cond.classLink own ik cls).before args s = true) (hini : (Cond.initialized cls).before args s = true) (hstr : vk_R own is text sa s) (hat : ∀ w ∈ vx_atS own ic cls names, w.before args s = true)
    (hgood : ∀ w ∈ Cond.classLink own ik cls :: Cond.initialized cls :: vx_atS own ic cls names, vx_ot w = true)
    (hU : vx_Zq Bundle.tN "UNASSIGNED_STACK" Bundle.steD A s s.heap) (hN : vx_Zq Bundle.tN "SUPPRESSED_SENTINEL" Bundle.listD A s s.heap) (hS : va_S A s.heap H locs) (hsize : ls.size = c.maxLocals)
    (d0 : decode cc pc = .ok (.new ik, 3)) (d3 : decode cc (pc + 3) = .ok (.dup, 1)) (d4 : decode cc (pc + 4) = .ok (.ldc_w is, 3)) (d7 : decode cc (pc + 7) = .ok (.invokespecial ic, 3)) (d10 : decode cc (pc + 10) = .ok (.athrow, 1))
    (hout : ∀ x ∈ c.exceptionTable.toList, covers x (pc + 10) = false)
    (hRframes : names.length + 3 < R.frames) (hRlocals : (rest.map fun v => v.category).sum + (13 * (names.length + 1) + 43) ≤ R.locals) (hRcells : cells + 1 ≤ R.cells) (hRslots : slots + 6 ≤ R.slots) (hlocks : meth.locks = false)
    (hx : ∀ t : State, s.vm.Alike t.vm → H.size ≤ t.heap.size → (∀ q : Nat, q < H.size → t.heap[q]? = H[q]?) → XC cls s t)
    (hf : ∀ z ∈ locs, free z.base) (hc : cells + 1 ≤ mc) (hs : slots + 6 ≤ ms) :
    W p l e R s m args below meth c H locs cells slots (vx_MQ below Qc XC args s mc ms free) (F0 m pc ls rest) := by
  intro T hT X
  have htr : e.platform.stackTraces = false := (show e.platform.stackTraces = l.stackTraces by rw [X.admits.platform]).trans hl
  have Y := vx_rebase X (R' := { frames := R.frames, locals := R.locals, cells := 1, slots := 6 }) (Nat.le_refl _) (Nat.le_refl _) hRcells hRslots
  obtain ⟨s', hA⟩ : ∃ z, z = (T.setVm s.vm).setFrames (.invoking m args :: below) := ⟨_, rfl⟩
  rw [← hA] at Y
  have hvm : s'.vm = s.vm := by rw [hA]; rfl
  have hhp : s'.heap = H := by rw [hA]; exact hT
  have hW0 : s.WarmedH s'.vm := by rw [hvm]; exact State.WarmedH.refl s
  have hat' : ∀ w ∈ vx_atS own ic cls names, w.before args s' = true := fun w hw => vx_ot_at hW0 hvm.symm (hgood w (List.mem_cons_of_mem _ (List.mem_cons_of_mem _ hw))) (hat w hw)
  have hk' : (Cond.classLink own ik cls).before args s' = true := vx_ot_at hW0 hvm.symm (hgood _ List.mem_cons_self) hk
  have hini' : (Cond.initialized cls).before args s' = true := vx_ot_at hW0 hvm.symm (hgood _ (List.mem_cons_of_mem _ List.mem_cons_self)) hini
  have hU' : vx_Zq Bundle.tN "UNASSIGNED_STACK" Bundle.steD A s' s'.heap := by rw [hhp]; exact vx_Zq.moved hW0.alike (hU.kept hS.2.1)
  have hN' : vx_Zq Bundle.tN "SUPPRESSED_SENTINEL" Bundle.listD A s' s'.heap := by rw [hhp]; exact vx_Zq.moved hW0.alike (hN.kept hS.2.1)
  have h : ∀ w ∈ Bundle.ownAtoms own ic cls names, w.before args s' = true := vx_own hat' (vx_isRefq hU'.1) (vx_isRefq hN'.1) hU'.2.word hN'.2.word
  have hown' : s'.vm.findClass own = some m.cls := by rw [hvm]; exact hown
  have hins : (Cond.instantiable cls 6).before args s' = true := h _ (by simp [Bundle.ownAtoms])
  obtain ⟨vm₁, cX, kX, hfX, hkX, -, -, X₁, st1⟩ := Y.newCold hexec (own := own) (C := cls) (index := ik) (n := 6) hown' hk' hins hini'
    (g := F0 m pc ls rest) rfl (by rw [hb]; exact d0) (Nat.le_refl _) (Nat.le_refl _)
  generalize hT1 : (T.setVm vm₁).pushCell { cls := cX, slots := kX.instanceTypes.map defaultValue, vm := .none } = T1 at X₁ st1
  have hcat : (Value.ref T.heap.size).category = 1 := rfl
  have hcellA : T1.heap[T.heap.size]? = some (freshCell cX kX) := by rw [← hT1]; exact State.heap_pushCell_size _ _
  have d3' : decode c.code (pc + 3) = .ok (.dup, 1) := by rw [hb]; exact d3
  have d4' : decode c.code (pc + 4) = .ok (.ldc_w is, 3) := by rw [hb]; exact d4
  have hstr' : vk_R own is text sa s' := vk_R.warm hW0 hstr
  obtain ⟨U, hsteps, hrun, hend, hW, hsame, ce, hce, hO⟩ := X₁.ctorThrowS hexec htr (own := own) (cls := cls) (names := names) (ic := ic) hown' hcls hnames h (fun x hx => nomatch hx) hfX hkX hcellA (by rw [hhp, hT]; exact Nat.le_refl _) (msg := .ref sa) rfl
    (g := { method := m, pc := pc + 7, locals := ls, stack := .ref sa :: .ref T.heap.size :: .ref T.heap.size :: rest, locked := none }) rfl hsize rfl rfl (rest := rest) rfl
    (by rw [hb]; exact d7) (by rw [hb]; exact d10) hout hRframes (by simp only [List.map_cons, List.sum_cons, hcat]; omega) hlocks
  obtain ⟨f1, f2⟩ := vx_frame hsame
  rw [hhp] at f1 f2
  have hWs : s.WarmedH U.vm := State.WarmedH.trans hW0 hW
  have hcl : s.vm.findClass cls = some ce.cls := by
    have h9 := hO.cls
    rw [hvm] at h9
    exact h9
  have hall : s.sameButNew ({ U with vm := s.vm } : State) locs mc ms := by
    subst hA
    obtain ⟨e1, e2⟩ := hsame
    rw [State.setFrames_setFrames] at e1
    have h2 : (T.setVm s.vm).sameButNew ({ U with vm := s.vm } : State) [] (0 + 1) (0 + 6) := ⟨e1, e2⟩
    have h3 := X.same.trans h2
    rw [List.append_nil] at h3
    exact h3.mono hc hs
  refine ⟨U, ?_, .threw T.heap.size, hrun, hend, Or.inr ⟨T.heap.size, rfl, cls, ce, locs, hx U hWs.alike f1 (fun q hq => f2 q hq (fun z hz => nomatch hz)), hce, hO.vm, hcl, hWs, hall, hf⟩⟩
  refine st1 _ ?_
  show Steps p.tables e below (T1.setTop { method := m, pc := pc + 3, locals := ls, stack := .ref T.heap.size :: rest, locked := none }) _
  jvm_step X₁.here [X₁.here.top, hexec, d3', Value.category]
  exact X₁.ldcStringW hexec (own := own) (text := text) (index := is) (a := sa) hown' hstr'.1 hstr'.2
    (g := { method := m, pc := pc + 4, locals := ls, stack := .ref T.heap.size :: .ref T.heap.size :: rest, locked := none }) rfl d4' _ hsteps
end Ends
section Bodies
variable {l : Launch}
theorem vx_ofW {y : MethodName} {ws ws' : List Cond} {rm : Room} {Pc : Array Value → State → Prop} {Qc : Array Value → State → Outcome → State → Prop} {XC : String → State → State → Prop} {mc ms : Nat} {free : Addr → Prop} {cc : ByteArray} {maxL : Nat} {ret : Option FieldType}
    (hy : plainName y.cls = true) (hw : ws = Cond.code y cc maxL ret :: ws')
    (body : ∀ p e s m args below meth c s₁, BodyLoose p l y (headSpec ws rm) cc maxL ret e s m args below meth c s₁ → c.maxLocals = maxL → (∀ x ∈ c.exceptionTable.toList, False) → Pc args s →
      W p l e (headSpec ws rm).room s m args below meth c s.heap [] 0 0 (vx_MQ below Qc XC args s mc ms free) (entryFrame m args maxL)) : vx_Met l y ws rm Pc Qc XC mc ms free := by
  refine MetFree.of_bodyS (code := cc) (maxLocals := maxL) (ret := ret) hy ?_ ?_
  · intro args s m h hn
    obtain ⟨meth, c, h1, h2, h3, h4, h5, h6, -, -⟩ := Cond.code_spec hn (atoms_spec (ws := ws) h _ (by rw [hw]; exact List.mem_cons_self))
    exact ⟨meth, c, h1, h2, h3, h4, h5, h6⟩
  · intro p e s m args below meth c s₁ B hml hP _
    have hh0 : s₁.heap = s.heap := by rw [B.state]; rfl
    have ht : ∀ x ∈ c.exceptionTable.toList, False := by
      obtain ⟨meth9, c9, h1, h2, -, -, -, -, h7, -⟩ := Cond.code_spec B.named (atoms_spec (ws := ws) B.pre _ (by rw [hw]; exact List.mem_cons_self))
      cases Option.some.inj (h1.symm.trans B.method)
      cases Option.some.inj (h2.symm.trans (Stand.of_body B).code)
      intro x hx
      rw [Array.isEmpty_iff.mp h7] at hx
      cases hx
    obtain ⟨t, a1, o, b1, b2, b3⟩ := body p e s m args below meth c s₁ B hml ht hP s₁ hh0 (Stand.of_body B)
    exact ⟨t, o, a1, b1, b2, b3⟩
/-- the table of a body with handlers -/
theorem vx_table {p : Program} {x y : MethodName} {S : Spec} {cc bytes : ByteArray} {maxL maxL' : Nat} {ret ret' : Option FieldType} {e : Env} {s s₁ : State} {m : MethodId} {args : Array Value} {below : List Frame} {meth : Method} {c : Code} {hh : List (Nat × Nat × Nat × Nat)}
    (B : BodyLoose p l y S cc maxL ret e s m args below meth c s₁) (h : (Cond.codeWith y bytes maxL' ret' hh).before args s = true) : c.exceptionTable.toList = tableOf hh := by
  obtain ⟨m9, meth9, c9, hn9, h1, h2, -, -, h6, -⟩ := Cond.codeWith_spec h
  cases Option.some.inj (hn9.symm.trans B.named)
  cases Option.some.inj (h1.symm.trans B.method)
  cases Option.some.inj (h2.symm.trans (Stand.of_body B).code)
  rw [← h6, table_eq]
end Bodies
end VXA
/-! ===== END ===== -/
/-! ===== BEGIN a static call of a method with an exception table ===== -/
section VXS
variable {p : Program} {l : Launch} {e : Env} {R : Room} {s : State} {m : MethodId} {args : Array Value} {below : List Frame} {meth : Method} {c : Code} {T : State} {H : Heap} {locs : List Loc} {cells slots : Nat}
abbrev vx_CSW (R : Room) (s : State) (args : Array Value) (own : String) (index : Nat) (y : MethodName) (bytes : ByteArray) (maxL : Nat) (ret : Option FieldType) (hh : List (Nat × Nat × Nat × Nat)) (ws : List Cond) (rm : Room) (mc ms n : Nat) : Prop :=
  (rm.cells = mc ∧ rm.slots = ms ∧ rm.frames + 1 ≤ R.frames ∧ 8 + (maxL + 11) + rm.locals ≤ R.locals ∧ (∀ w ∈ ws, ∀ (a' : Array Value) (U : State), s.WarmedH U.vm → w.before a' U = true) ∧ Cond.codeWith y bytes maxL ret hh ∈ ws) ∧
  (Cond.codeWith y bytes maxL ret hh).before args s = true ∧ (Cond.initialized y.cls).before args s = true ∧ (y.cls ≠ "java/lang/invoke/MethodHandle" ∧ y.cls ≠ "java/lang/invoke/VarHandle") ∧
  (∀ sig, parseMethodDescriptor y.desc = some sig → n = sig.parameters.length) ∧ (Cond.methodLink own index y).before args s = true ∧ (Cond.static y).before args s = true
theorem vx_cwSW {own : String} {index maxL mc ms : Nat} {y : MethodName} {bytes : ByteArray} {ret : Option FieldType} {hh : List (Nat × Nat × Nat × Nat)} {Ts ws ws' : List Cond} {rm : Room} (n : Nat) (ht : ∀ w ∈ Ts, w.before args s = true) (hT : GoodIn Ts (va_wsS own index y ws)) (hw : ws = Cond.codeWith y bytes maxL ret hh :: ws') (hrc : rm.cells = mc) (hrs : rm.slots = ms)
    (hd : y.cls ≠ "java/lang/invoke/MethodHandle" ∧ y.cls ≠ "java/lang/invoke/VarHandle" ∧ (parseMethodDescriptor y.desc).map (fun d => d.parameters.length) = some n) (hR : rm.frames + 1 ≤ R.frames ∧ 8 + (maxL + 11) + rm.locals ≤ R.locals) :
    vx_CSW R s args own index y bytes maxL ret hh ws rm mc ms n := by
  have ok : ∀ w ∈ va_wsS own index y ws, w.before args s = true := fun w h => ht w (hT w h).1
  have hG : GoodIn Ts ws := fun w h => hT w (by unfold va_wsS; exact List.mem_append_right _ h)
  have hc : Cond.codeWith y bytes maxL ret hh ∈ ws := by rw [hw]; exact List.mem_cons_self
  refine ⟨⟨hrc, hrs, hR.1, hR.2, pay_in ht hG, hc⟩, ht _ (hG _ hc).1, ok _ (by simp [va_wsS]), ⟨hd.1, hd.2.1⟩, fun sig h => ?_, ok _ (by simp [va_wsS]), ok _ (by simp [va_wsS])⟩
  have h2 := hd.2.2
  rw [h] at h2
  exact (Option.some.inj h2).symm
theorem vx_callSW (X : Stand p l e R s m args below meth c T locs cells slots) (hexec : p.tables.exec = Jvm.exec) {own : String} {index : Nat} {y : MethodName} {bytes : ByteArray} {maxL : Nat} {ret : Option FieldType} {hh : List (Nat × Nat × Nat × Nat)}
    (hown : s.vm.findClass own = some m.cls) (hlink : (Cond.methodLink own index y).before args s = true) (hstat : (Cond.static y).before args s = true) (hinit : (Cond.initialized y.cls).before args s = true)
    (hcode : (Cond.codeWith y bytes maxL ret hh).before args s = true) (hy : y.cls ≠ "java/lang/invoke/MethodHandle" ∧ y.cls ≠ "java/lang/invoke/VarHandle")
    {W9 : Nat} {Pre : Pt → Array Value → Prop} {Post : Pt → Array Value → Option Value → Pt → Prop} (hK : Back l R p e below s args y 3 W9 Pre Post)
    {g : JFrame} (hg : g.method = m) (hsize : g.locals.size = c.maxLocals) {argsL rest : List Value} (hlen : ∀ sig, parseMethodDescriptor y.desc = some sig → argsL.length = sig.parameters.length)
    (hstack : g.stack = argsL.reverse ++ rest) (hW : 2 * g.monitorRoom + (rest.map fun v => v.category).sum ≤ W9) (hdg : decode c.code g.pc = .ok (.invokestatic index, 3))
    (hpre : ∀ vm₁, s.WarmedH vm₁ → Pre ⟨T.setVm vm₁, locs, cells, slots⟩ argsL.toArray) :
    ∃ (v : Option Value) (vm₁ : Vm) (B : Pt), s.WarmedH vm₁ ∧ Stand p l e R s m args below meth c B.U B.locs B.cells B.slots ∧ Post ⟨T.setVm vm₁, locs, cells, slots⟩ argsL.toArray v B ∧
      ∀ target, Steps p.tables e below (B.U.setTop { g with pc := g.pc + 3, stack := v.toList ++ rest }) target → Steps p.tables e below (T.setTop g) target := by
  obtain ⟨mk, methM, cM, hnamed, hmethM, -, -, -, -, -, -, hsigM⟩ := Cond.codeWith_spec hcode
  have hstatic : methM.isStatic = true := Cond.static_spec hnamed hmethM hstat
  obtain ⟨kP, hkP, -⟩ := className_of_methodNamed hnamed
  have hinitP : kP.init = .initialized := Cond.initialized_spec (findClass_of_methodNamed hnamed) hkP hinit
  obtain ⟨vm₁, X₁, hstep₁⟩ := X.invokestatic hexec hown hlink hnamed hmethM hstatic hkP hinitP hy (g := g) hg (argsL := argsL) (rest := rest) (hlen _ hsigM) hstack hdg
  obtain ⟨v, B, X', hpost, hsteps⟩ := hK m meth c ⟨T.setVm vm₁, locs, cells, slots⟩ { g with stack := rest } (.invokestatic index) mk argsL.toArray X₁ hg hsize hdg hW (X₁.named hnamed) (hpre vm₁ X₁.warmed)
  exact ⟨v, vm₁, B, X₁.warmed, X', hpost, fun target h => hstep₁ _ fun acts => by rw [doInvoke_state]; exact hsteps.trans h⟩
theorem vx_runSW {y : MethodName} {bytes cc : ByteArray} {maxL nL mc ms n index : Nat} {ret : Option FieldType} {hh : List (Nat × Nat × Nat × Nat)} {ws : List Cond} {rm : Room} {Pc : Array Value → State → Prop} {Qc : Array Value → State → Outcome → State → Prop} {free : Addr → Prop} {Ts : List Cond} {own : String} {As rest : List Value} {g : JFrame}
    (S : CallFix p m c cc nL s args Ts own) (hM : Met l y ws rm Pc Qc mc ms free) (cw : vx_CSW R s args own index y bytes maxL ret hh ws rm mc ms n) (hp : PreS s H Pc As)
    (hg : g.method = m) (hn : As.length = n) (hsize : g.locals.size = nL) (hstack : g.stack = As.reverse ++ rest) (hW : 2 * g.monitorRoom + (rest.map fun v => v.category).sum ≤ 8) (hdg : decode cc g.pc = .ok (.invokestatic index, 3)) (hf : cells + mc ≤ R.cells ∧ slots + ms ≤ R.slots) :
    va_Run p l e R s m args below meth c H locs cells slots mc ms g rest (Qc As.toArray) (free) := by
  obtain ⟨⟨hrc, hrs, hfr, hlo, hws, hcw⟩, hcode, hini, hy, hlen, hl, hstt⟩ := cw
  have hK : Back l R p e below s args y 3 8 (PreOf R mc ms Pc) (PostOf Qc mc ms free) := va_backW (hh := hh) (bytes := bytes) (maxL := maxL) (ret := ret) hM hp.1 hrc hrs hfr hlo hws hcw (fun a' U hW => word_at hW (Or.inl (by first | rfl | simp [Cond.onTables, Cond.keeps, Cond.steady])) hini)
  obtain ⟨hx, hb, hml, ho, -⟩ := S
  intro T hT X
  obtain ⟨v, vm₁, ⟨U', l2, c2, s2⟩, hW₁, X', ⟨g', mk, t, L, e1, e2, hq, h1, hL, h2, h3⟩, st⟩ := vx_callSW X hx (hh := hh) (bytes := bytes) (maxL := maxL) (ret := ret) ho hl hstt hini hcode hy hK hg (hsize.trans hml.symm) (argsL := As) (rest := rest) (fun sig h => hn.trans (hlen sig h)) hstack hW (by rw [hb]; exact hdg)
    (fun vm₁ hW₁ => ⟨hf.1, hf.2, hp.2 (T.setVm vm₁) hT hW₁⟩)
  dsimp only [Pt.U, Pt.locs, Pt.cells, Pt.slots] at X' e1 e2 h1 h2 h3 st
  subst h1; subst h2; subst h3
  exact ⟨v, (T.setVm vm₁).calling g' mk As.toArray, t, U', L, hT, X', hL, e1, e2, hq, st⟩
/-- not caught here, past rows that name other classes: it goes on to the caller -/
theorem vx_outP {p : Program} {l : Launch} {e : Env} {R : Room} {s : State} {m : MethodId} {args : Array Value} {below : List Frame} {meth : Method} {c : Code} {H : Heap} {locs : List Loc} {cells slots : Nat} {free : Addr → Prop} {ls : Array Slot} {rest : List Value} {Qc : Array Value → State → Outcome → State → Prop} {XC : String → State → State → Prop}
    {pc : Nat} {own E : String} {ce : Cell} {q : Addr} {mc ms : Nat} (hown : s.vm.findClass own = some m.cls) (hlocks : meth.locks = false)
    (hpass : ∀ z ∈ c.exceptionTable.toList, covers z pc = false ∨ (z.catchType ≠ 0 ∧ ∃ nm : String, (Cond.classLink own z.catchType nm).before args s = true ∧ va_Nc E nm s)) (hcell : H[q]? = some ce) (hv : ce.vm = .none) (hcl : s.vm.findClass E = some ce.cls)
    (hx : ∀ t : State, t.heap = H → s.vm.Alike t.vm → XC E s t) (hf : ∀ z ∈ locs, free z.base) (hc : cells ≤ mc) (hs : slots ≤ ms) :
    vx_W p l e R s m args below meth c H locs cells slots (vx_MQ below Qc XC args s mc ms free) (F0 m pc ls rest) q := by
  intro T hT X
  have hpl : e.platform.magicAccessors = ({} : Platform).magicAccessors := by rw [X.admits.platform]
  obtain ⟨vm', hW', X', st⟩ := X.outThrough hlocks q (g := F0 m pc ls rest) rfl rfl rfl (cell := ce) (by rw [hT]; exact hcell) (by rw [hv]; rfl)
    (by obtain ⟨k9, h9, -⟩ := Vm.findClass_spec hcl; exact ⟨k9, h9⟩) (fun z hz => by
      rcases hpass z hz with h | ⟨hz0, nm, hl1, hn1⟩
      · exact Or.inl h
      · obtain ⟨c6, hc6, hcl6⟩ := Cond.classLink_spec hown hl1 e.platform hpl
        obtain ⟨a8, b8, h1, h2, h3⟩ := hn1
        cases Option.some.inj (h1.symm.trans hcl)
        cases Option.some.inj (h2.symm.trans hc6)
        exact Or.inr ⟨hz0, _, hcl6, h3⟩)
  obtain ⟨g₀, hfr⟩ := X'.frames_eq
  have hcell9 : ((T.setVm vm').setFrames (.throwing q :: below)).heap[q]? = some ce := by
    show T.heap[q]? = some ce
    rw [hT]; exact hcell
  have hend : Ended ((T.setVm vm').setFrames (.throwing q :: below)) below (.threw q) := State.frames_setFrames _ (State.cur_lt_of_frames hfr)
  refine ⟨(T.setVm vm').setFrames (.throwing q :: below), ?_, .threw q, X'.here.running, hend, Or.inr ⟨q, rfl, E, ce, locs, hx _ hT (X'.ends _).1.alike, hcell9, hv, hcl, (X'.ends _).1, (X'.ends _).2.mono hc hs, hf⟩⟩
  rw [X.pushThrowing_eq]
  exact st
/-- a thing of a world lies in the heap -/
theorem vx_lt {D : va_G} {cl : List vw_C} {ws : va_W} {H1 : Heap} (h : va_P D cl ws H1) {k : Nat} {q : Nat × va_E} (hk : ws[k]? = some q) : q.1 < H1.size := (h k q hk).lt
end VXS
/-! ===== END ===== -/
/-! ===== BEGIN methods with a table of their own: called by a name, returning or throwing ===== -/
section VXH
/-! vx_backW, vx_callVX, vx_callSX, vx_callVW, vx_runVW, vx_runVX, vx_runSX, vx_ofWH follow the same proofs as their sisters above (Free/Laws.lean, Shelf42/LK1.lean); vx_outP calls Shelf42/NT130.lean (outThrough). -/
section
variable {l : Launch} {R : Room} {p : Program} {e : Env} {below : List Frame} {s : State} {sargs : Array Value} {y : MethodName} {len W9 : Nat}
theorem vx_backW {ws : List Cond} {rm : Room} {Pc : Array Value → State → Prop} {Qc : Array Value → State → Outcome → State → Prop} {XC : String → State → State → Prop} {mc ms : Nat} {free : Addr → Prop} {bytes : ByteArray} {maxL : Nat} {ret : Option FieldType} {hh : List (Nat × Nat × Nat × Nat)}
    (hM : vx_Met l y ws rm Pc Qc XC mc ms free) (hblind : FrameBlind Pc) (hrc : rm.cells = mc) (hrs : rm.slots = ms)
    (hframes : rm.frames + 1 ≤ R.frames) (hlocals : W9 + (maxL + 11) + rm.locals ≤ R.locals)
    (hws : ∀ w ∈ ws, ∀ a' U, s.WarmedH U.vm → w.before a' U = true) (hcode : Cond.codeWith y bytes maxL ret hh ∈ ws) (hinit : ∀ a' U, s.WarmedH U.vm → (Cond.initialized y.cls).before a' U = true) :
    vx_Back l R p e below s sargs y len W9 (PreOf R mc ms Pc) (PostOf Qc mc ms free) (vx_Post XC mc ms free) := by
  intro m meth c A g ig mk a X hg hsize hdg hW hn hp
  have h1 : (headSpec ws rm).pre.before a A.U = true := atoms_intro fun w hw => hws w hw _ _ X.warmed
  have h2 : (Cond.codeWith y bytes maxL ret hh).before a A.U = true := hws _ hcode _ _ X.warmed
  have h3 : (Cond.initialized y.cls).before a A.U = true := hinit _ _ X.warmed
  have h4 : A.cells + (headSpec ws rm).room.cells ≤ R.cells := by rw [show (headSpec ws rm).room.cells = mc from hrc]; exact hp.1
  have h5 : A.slots + (headSpec ws rm).room.slots ≤ R.slots := by rw [show (headSpec ws rm).room.slots = ms from hrs]; exact hp.2.1
  have hPc : Pc a (A.U.calling g mk a) := hblind _ _ _ _ hp.2.2
  obtain ⟨U, Ls, c0, s0⟩ := A
  dsimp only [Pt.U, Pt.locs, Pt.cells, Pt.slots] at h1 h2 h3 h4 h5 X hn hPc ⊢
  obtain ⟨m9, methY, cY, hn9, hmY, hcY, -, hlY, -⟩ := Cond.codeWith_spec h2
  cases Option.some.inj (hn9.symm.trans hn)
  obtain ⟨kY, hkY, -⟩ := className_of_methodNamed hn
  have hinitY : kY.init = .initialized := Cond.initialized_spec (findClass_of_methodNamed hn) hkY h3
  have h : At U g.method c below := by rw [hg]; exact X.here
  have hlocals9 : W9 + (maxL + 11) + (headSpec ws rm).room.locals ≤ R.locals := hlocals
  have happ : (headSpec ws rm).appliesLoose y e.platform (U.calling g mk a) = true :=
    Spec.appliesLoose_calling (g := g) h hdg hn hkY hinitY
      (X.room_calling (g := g) (R' := (headSpec ws rm).room) hsize hmY hcY hframes (by rw [hlY]; omega) h4 h5) h1
  obtain ⟨mid, hmid⟩ := h.above
  have hfr : (U.setTop g).frames = (.java g :: mid) ++ below := by rw [State.frames_setTop' g h.top, hmid]; rfl
  obtain ⟨o, s₂, hsteps, -, hend, hq⟩ := Steps.callFree hM p X.admits X.cas X.clock (acts := []) hfr happ hPc trivial
  have hq' : vx_Q Qc XC mc ms free a (U.calling g mk a) o s₂ := hq
  rw [State.frames_setTop' g h.top] at hend
  obtain ⟨g₀, hg0⟩ := Option.isSome_iff_exists.mp h.top
  obtain ⟨r, hr⟩ := State.topJava?_eq_some.mp hg0
  have hr' : (({ U with heap := s₂.heap, slotsUsed := s₂.slotsUsed } : State).setVm s₂.vm).frames = .java g₀ :: r := hr
  rcases hq' with ⟨hqc, L, hfe, hL⟩ | ⟨q, rfl, E, ce, L, hx, hce, hcv, hcl, hW₂, hsm, hL⟩
  · obtain ⟨⟨v, rfl⟩, hW₂, e2, q2, q3, q4, q5, q6⟩ := id hfe
    have e3 : s₂ = ({ (U.calling g mk a).setFrames s₂.frames with heap := s₂.heap, slotsUsed := s₂.slotsUsed } : State).setVm s₂.vm := by
      have : s₂ = ({ s₂ with vm := (U.calling g mk a).vm } : State).setVm s₂.vm := rfl
      rw [e2] at this
      exact this
    obtain ⟨c₂, i₂, len₂, hc₂, hd₂, hf₂⟩ := hend
    have hW' : U.WarmedH s₂.vm := hW₂
    have hcc : c₂ = c := by
      have h1 : s₂.code? g.method = U.code? g.method := by
        rw [State.code?_eq, State.code?_eq, hW'.alike.method?]
      exact Option.some.inj (hc₂.symm.trans (h1.trans h.code))
    subst hcc
    have hlen : len₂ = len := by rw [hdg] at hd₂; cases hd₂; rfl
    subst hlen
    have hs₂ : s₂ = (({ U with heap := s₂.heap, slotsUsed := s₂.slotsUsed } : State).setVm s₂.vm).setTop { g with pc := g.pc + len₂, stack := v.toList ++ g.stack } := by
      refine e3.trans ?_
      rw [hf₂, State.calling_eq h.top, State.setFrames_setFrames, State.setTop_of_frames _ hr', hr]
      rfl
    have hsame : U.sameButNew ({ U with heap := s₂.heap, slotsUsed := s₂.slotsUsed } : State) L mc ms := by
      refine ⟨?_, q2, q3, q4, q5, q6⟩
      obtain ⟨t, ht, -⟩ := State.frames_cons hr
      show ({ U with heap := s₂.heap, slotsUsed := s₂.slotsUsed } : State) = { U.setFrames U.frames with heap := s₂.heap, slotsUsed := s₂.slotsUsed }
      rw [State.setFrames_self ht]
    subst hg
    refine Or.inl ⟨v, ⟨(({ U with heap := s₂.heap, slotsUsed := s₂.slotsUsed } : State).setVm s₂.vm), Ls ++ L, c0 + mc, s0 + ms⟩,
      ⟨X.admits, X.cas, X.clock, X.frames, X.room, X.hears, X.method, X.code, (X.here.setHeapUsed s₂.heap s₂.slotsUsed).setVm hW'.alike, X.tail, State.WarmedH.trans X.warmed hW', X.limits, X.bytes, X.same.trans (hsame.setVm s.vm)⟩,
      ⟨g, mk, s₂, L, rfl, rfl, hqc, rfl, hL, rfl, rfl⟩, ?_⟩
    show Steps p.tables e below _ ((({ U with heap := s₂.heap, slotsUsed := s₂.slotsUsed } : State).setVm s₂.vm).setTop { g with pc := g.pc + len₂, stack := v.toList ++ g.stack })
    rw [← hs₂]
    exact hsteps
  · obtain ⟨e2, q2, q3, q4, q5, q6⟩ := id hsm
    have e3 : s₂ = ({ (U.calling g mk a).setFrames s₂.frames with heap := s₂.heap, slotsUsed := s₂.slotsUsed } : State).setVm s₂.vm := by
      have : s₂ = ({ s₂ with vm := (U.calling g mk a).vm } : State).setVm s₂.vm := rfl
      rw [e2] at this
      exact this
    have hf₂ : s₂.frames = .throwing q :: .java g :: U.frames.tail := hend
    have hW' : U.WarmedH s₂.vm := hW₂
    have hs₂ : s₂ = ((({ U with heap := s₂.heap, slotsUsed := s₂.slotsUsed } : State).setVm s₂.vm).setTop g).pushFrame (.throwing q) := by
      refine e3.trans ?_
      rw [hf₂, State.calling_eq h.top, State.setFrames_setFrames, State.pushFrame, State.frames_setTop _ hr', State.setTop_of_frames _ hr', State.setFrames_setFrames, hr]
      rfl
    have hsame : U.sameButNew ({ U with heap := s₂.heap, slotsUsed := s₂.slotsUsed } : State) L mc ms := by
      refine ⟨?_, q2, q3, q4, q5, q6⟩
      obtain ⟨t, ht, -⟩ := State.frames_cons hr
      show ({ U with heap := s₂.heap, slotsUsed := s₂.slotsUsed } : State) = { U.setFrames U.frames with heap := s₂.heap, slotsUsed := s₂.slotsUsed }
      rw [State.setFrames_self ht]
    subst hg
    refine Or.inr ⟨q, ⟨(({ U with heap := s₂.heap, slotsUsed := s₂.slotsUsed } : State).setVm s₂.vm), Ls ++ L, c0 + mc, s0 + ms⟩,
      ⟨X.admits, X.cas, X.clock, X.frames, X.room, X.hears, X.method, X.code, (X.here.setHeapUsed s₂.heap s₂.slotsUsed).setVm hW'.alike, X.tail, State.WarmedH.trans X.warmed hW', X.limits, X.bytes, X.same.trans (hsame.setVm s.vm)⟩,
      ⟨g, mk, s₂, L, E, ce, rfl, rfl, hx, hce, hcv, hcl, rfl, hL, rfl, rfl⟩, ?_⟩
    show Steps p.tables e below _ (((({ U with heap := s₂.heap, slotsUsed := s₂.slotsUsed } : State).setVm s₂.vm).setTop g).pushFrame (.throwing q))
    rw [← hs₂]
    exact hsteps
end
variable {p : Program} {l : Launch} {e : Env} {R : Room} {s : State} {m : MethodId} {args : Array Value} {below : List Frame} {meth : Method} {c : Code} {T : State} {H : Heap} {locs : List Loc} {cells slots : Nat}
theorem vx_callVX (X : Stand p l e R s m args below meth c T locs cells slots) (hexec : p.tables.exec = Jvm.exec) {own C : String} {index : Nat} {y : MethodName} {bytes : ByteArray} {maxL : Nat} {ret : Option FieldType} {hh : List (Nat × Nat × Nat × Nat)}
    (hown : s.vm.findClass own = some m.cls) (hlink : (Cond.methodLink own index y).before args s = true) (hinst : (Cond.instanceMethod y).before args s = true) (hsel : (Cond.selects C y y).before args s = true)
    (hcode : (Cond.codeWith y bytes maxL ret hh).before args s = true) (hy : y.cls ≠ "java/lang/invoke/MethodHandle" ∧ y.cls ≠ "java/lang/invoke/VarHandle")
    {W9 : Nat} {Pre : Pt → Array Value → Prop} {Post : Pt → Array Value → Option Value → Pt → Prop} {PostX : Pt → Array Value → Addr → Pt → Prop} (hK : vx_Back l R p e below s args y 3 W9 Pre Post PostX)
    {b : Addr} {cellB : Cell} (hcell : T.heap[b]? = some cellB) (hobj : cellB.vm.isStatics = false) (hcls : s.vm.findClass C = some cellB.cls)
    {g : JFrame} (hg : g.method = m) (hsize : g.locals.size = c.maxLocals) {argsL rest : List Value} (hlen : ∀ sig, parseMethodDescriptor y.desc = some sig → argsL.length = sig.parameters.length)
    (hstack : g.stack = argsL.reverse ++ .ref b :: rest) (hW : 2 * g.monitorRoom + (rest.map fun v => v.category).sum ≤ W9) (hdg : decode c.code g.pc = .ok (.invokevirtual index, 3))
    (hpre : ∀ vm₁, s.WarmedH vm₁ → Pre ⟨T.setVm vm₁, locs, cells, slots⟩ (Value.ref b :: argsL).toArray) :
    (∃ (v : Option Value) (vm₁ : Vm) (B : Pt), s.WarmedH vm₁ ∧ Stand p l e R s m args below meth c B.U B.locs B.cells B.slots ∧ Post ⟨T.setVm vm₁, locs, cells, slots⟩ (Value.ref b :: argsL).toArray v B ∧
      ∀ target, Steps p.tables e below (B.U.setTop { g with pc := g.pc + 3, stack := v.toList ++ rest }) target → Steps p.tables e below (T.setTop g) target) ∨
    (∃ (q : Addr) (vm₁ : Vm) (B : Pt), s.WarmedH vm₁ ∧ Stand p l e R s m args below meth c B.U B.locs B.cells B.slots ∧ PostX ⟨T.setVm vm₁, locs, cells, slots⟩ (Value.ref b :: argsL).toArray q B ∧
      Steps p.tables e below (T.setTop g) ((B.U.setTop { g with stack := rest }).pushFrame (.throwing q))) := by
  obtain ⟨mk, methM, hnamed, hmethM, hstM, habM⟩ := Cond.instanceMethod_spec hinst
  obtain ⟨m8, methM', cM, hn8, hmethM', -, -, -, -, -, -, hsigM⟩ := Cond.codeWith_spec hcode
  cases Option.some.inj (hn8.symm.trans hnamed)
  cases hmethM.symm.trans hmethM'
  obtain ⟨c2, r2, m2, q1, q2, q3, q4, kP, hkP, hkPi⟩ := Cond.selects_spec hsel
  cases hcls.symm.trans q1
  cases (State.methodFound?_of_named hnamed hy).symm.trans q2
  cases hnamed.symm.trans q3
  have hselP : selectMethod e.platform s.vm cellB.cls mk = .method mk := by rw [Launch.admits_selectMethod X.admits]; exact q4
  obtain ⟨vm₁, X₁, hstep₁⟩ := X.invokevirtual hexec hown hlink hnamed hmethM hstM hkP hkPi hy (a := b) (cell := cellB) hcell
    (fun z h => by rw [h] at hobj; cases hobj) hselP hmethM habM hkP hkPi (g := g) hg (argsL := argsL) (rest := rest) (hlen _ hsigM) hstack hdg
  rcases hK m meth c ⟨T.setVm vm₁, locs, cells, slots⟩ { g with stack := rest } (.invokevirtual index) mk (Value.ref b :: argsL).toArray X₁ hg hsize hdg hW (X₁.named hnamed) (hpre vm₁ X₁.warmed) with ⟨v, B, X', hpost, hsteps⟩ | ⟨q, B, X', hpost, hsteps⟩
  · exact Or.inl ⟨v, vm₁, B, X₁.warmed, X', hpost, fun target h => hstep₁ _ fun acts => by rw [doInvoke_state]; exact hsteps.trans h⟩
  · exact Or.inr ⟨q, vm₁, B, X₁.warmed, X', hpost, hstep₁ _ fun acts => by rw [doInvoke_state]; exact hsteps⟩
theorem vx_callSX (X : Stand p l e R s m args below meth c T locs cells slots) (hexec : p.tables.exec = Jvm.exec) {own : String} {index : Nat} {y : MethodName} {bytes : ByteArray} {maxL : Nat} {ret : Option FieldType} {hh : List (Nat × Nat × Nat × Nat)}
    (hown : s.vm.findClass own = some m.cls) (hlink : (Cond.methodLink own index y).before args s = true) (hstat : (Cond.static y).before args s = true) (hinit : (Cond.initialized y.cls).before args s = true)
    (hcode : (Cond.codeWith y bytes maxL ret hh).before args s = true) (hy : y.cls ≠ "java/lang/invoke/MethodHandle" ∧ y.cls ≠ "java/lang/invoke/VarHandle")
    {W9 : Nat} {Pre : Pt → Array Value → Prop} {Post : Pt → Array Value → Option Value → Pt → Prop} {PostX : Pt → Array Value → Addr → Pt → Prop} (hK : vx_Back l R p e below s args y 3 W9 Pre Post PostX)
    {g : JFrame} (hg : g.method = m) (hsize : g.locals.size = c.maxLocals) {argsL rest : List Value} (hlen : ∀ sig, parseMethodDescriptor y.desc = some sig → argsL.length = sig.parameters.length)
    (hstack : g.stack = argsL.reverse ++ rest) (hW : 2 * g.monitorRoom + (rest.map fun v => v.category).sum ≤ W9) (hdg : decode c.code g.pc = .ok (.invokestatic index, 3))
    (hpre : ∀ vm₁, s.WarmedH vm₁ → Pre ⟨T.setVm vm₁, locs, cells, slots⟩ argsL.toArray) :
    (∃ (v : Option Value) (vm₁ : Vm) (B : Pt), s.WarmedH vm₁ ∧ Stand p l e R s m args below meth c B.U B.locs B.cells B.slots ∧ Post ⟨T.setVm vm₁, locs, cells, slots⟩ argsL.toArray v B ∧
      ∀ target, Steps p.tables e below (B.U.setTop { g with pc := g.pc + 3, stack := v.toList ++ rest }) target → Steps p.tables e below (T.setTop g) target) ∨
    (∃ (q : Addr) (vm₁ : Vm) (B : Pt), s.WarmedH vm₁ ∧ Stand p l e R s m args below meth c B.U B.locs B.cells B.slots ∧ PostX ⟨T.setVm vm₁, locs, cells, slots⟩ argsL.toArray q B ∧
      Steps p.tables e below (T.setTop g) ((B.U.setTop { g with stack := rest }).pushFrame (.throwing q))) := by
  obtain ⟨mk, methM, cM, hnamed, hmethM, -, -, -, -, -, -, hsigM⟩ := Cond.codeWith_spec hcode
  have hstatic : methM.isStatic = true := Cond.static_spec hnamed hmethM hstat
  obtain ⟨kP, hkP, -⟩ := className_of_methodNamed hnamed
  have hinitP : kP.init = .initialized := Cond.initialized_spec (findClass_of_methodNamed hnamed) hkP hinit
  obtain ⟨vm₁, X₁, hstep₁⟩ := X.invokestatic hexec hown hlink hnamed hmethM hstatic hkP hinitP hy (g := g) hg (argsL := argsL) (rest := rest) (hlen _ hsigM) hstack hdg
  rcases hK m meth c ⟨T.setVm vm₁, locs, cells, slots⟩ { g with stack := rest } (.invokestatic index) mk argsL.toArray X₁ hg hsize hdg hW (X₁.named hnamed) (hpre vm₁ X₁.warmed) with ⟨v, B, X', hpost, hsteps⟩ | ⟨q, B, X', hpost, hsteps⟩
  · exact Or.inl ⟨v, vm₁, B, X₁.warmed, X', hpost, fun target h => hstep₁ _ fun acts => by rw [doInvoke_state]; exact hsteps.trans h⟩
  · exact Or.inr ⟨q, vm₁, B, X₁.warmed, X', hpost, hstep₁ _ fun acts => by rw [doInvoke_state]; exact hsteps⟩
theorem vx_callVW (X : Stand p l e R s m args below meth c T locs cells slots) (hexec : p.tables.exec = Jvm.exec) {own C : String} {index : Nat} {y : MethodName} {bytes : ByteArray} {maxL : Nat} {ret : Option FieldType} {hh : List (Nat × Nat × Nat × Nat)}
    (hown : s.vm.findClass own = some m.cls) (hlink : (Cond.methodLink own index y).before args s = true) (hinst : (Cond.instanceMethod y).before args s = true) (hsel : (Cond.selects C y y).before args s = true)
    (hcode : (Cond.codeWith y bytes maxL ret hh).before args s = true) (hy : y.cls ≠ "java/lang/invoke/MethodHandle" ∧ y.cls ≠ "java/lang/invoke/VarHandle")
    {W9 : Nat} {Pre : Pt → Array Value → Prop} {Post : Pt → Array Value → Option Value → Pt → Prop} (hK : Back l R p e below s args y 3 W9 Pre Post)
    {b : Addr} {cellB : Cell} (hcell : T.heap[b]? = some cellB) (hobj : cellB.vm.isStatics = false) (hcls : s.vm.findClass C = some cellB.cls)
    {g : JFrame} (hg : g.method = m) (hsize : g.locals.size = c.maxLocals) {argsL rest : List Value} (hlen : ∀ sig, parseMethodDescriptor y.desc = some sig → argsL.length = sig.parameters.length)
    (hstack : g.stack = argsL.reverse ++ .ref b :: rest) (hW : 2 * g.monitorRoom + (rest.map fun v => v.category).sum ≤ W9) (hdg : decode c.code g.pc = .ok (.invokevirtual index, 3))
    (hpre : ∀ vm₁, s.WarmedH vm₁ → Pre ⟨T.setVm vm₁, locs, cells, slots⟩ (Value.ref b :: argsL).toArray) :
    ∃ (v : Option Value) (vm₁ : Vm) (B : Pt), s.WarmedH vm₁ ∧ Stand p l e R s m args below meth c B.U B.locs B.cells B.slots ∧ Post ⟨T.setVm vm₁, locs, cells, slots⟩ (Value.ref b :: argsL).toArray v B ∧
      ∀ target, Steps p.tables e below (B.U.setTop { g with pc := g.pc + 3, stack := v.toList ++ rest }) target → Steps p.tables e below (T.setTop g) target := by
  obtain ⟨mk, methM, hnamed, hmethM, hstM, habM⟩ := Cond.instanceMethod_spec hinst
  obtain ⟨m8, methM', cM, hn8, hmethM', -, -, -, -, -, -, hsigM⟩ := Cond.codeWith_spec hcode
  cases Option.some.inj (hn8.symm.trans hnamed)
  cases hmethM.symm.trans hmethM'
  obtain ⟨c2, r2, m2, q1, q2, q3, q4, kP, hkP, hkPi⟩ := Cond.selects_spec hsel
  cases hcls.symm.trans q1
  cases (State.methodFound?_of_named hnamed hy).symm.trans q2
  cases hnamed.symm.trans q3
  have hselP : selectMethod e.platform s.vm cellB.cls mk = .method mk := by rw [Launch.admits_selectMethod X.admits]; exact q4
  obtain ⟨vm₁, X₁, hstep₁⟩ := X.invokevirtual hexec hown hlink hnamed hmethM hstM hkP hkPi hy (a := b) (cell := cellB) hcell
    (fun z h => by rw [h] at hobj; cases hobj) hselP hmethM habM hkP hkPi (g := g) hg (argsL := argsL) (rest := rest) (hlen _ hsigM) hstack hdg
  obtain ⟨v, B, X', hpost, hsteps⟩ := hK m meth c ⟨T.setVm vm₁, locs, cells, slots⟩ { g with stack := rest } (.invokevirtual index) mk (Value.ref b :: argsL).toArray X₁ hg hsize hdg hW (X₁.named hnamed) (hpre vm₁ X₁.warmed)
  exact ⟨v, vm₁, B, X₁.warmed, X', hpost, fun target h => hstep₁ _ fun acts => by rw [doInvoke_state]; exact hsteps.trans h⟩
abbrev vx_CVW (R : Room) (s : State) (args : Array Value) (own C : String) (index : Nat) (y : MethodName) (bytes : ByteArray) (maxL : Nat) (ret : Option FieldType) (hh : List (Nat × Nat × Nat × Nat)) (ws : List Cond) (rm : Room) (mc ms n : Nat) : Prop :=
  (rm.cells = mc ∧ rm.slots = ms ∧ rm.frames + 1 ≤ R.frames ∧ 8 + (maxL + 11) + rm.locals ≤ R.locals ∧ (∀ w ∈ ws, ∀ (a' : Array Value) (U : State), s.WarmedH U.vm → w.before a' U = true) ∧ Cond.codeWith y bytes maxL ret hh ∈ ws) ∧
  (Cond.codeWith y bytes maxL ret hh).before args s = true ∧ (Cond.initialized y.cls).before args s = true ∧ (y.cls ≠ "java/lang/invoke/MethodHandle" ∧ y.cls ≠ "java/lang/invoke/VarHandle") ∧
  (∀ sig, parseMethodDescriptor y.desc = some sig → n = sig.parameters.length) ∧ (Cond.methodLink own index y).before args s = true ∧ (Cond.instanceMethod y).before args s = true ∧ (Cond.selects C y y).before args s = true
theorem vx_cwVW {own C : String} {index maxL mc ms : Nat} {y : MethodName} {bytes : ByteArray} {ret : Option FieldType} {hh : List (Nat × Nat × Nat × Nat)} {Ts ws ws' : List Cond} {rm : Room} (n : Nat) (ht : ∀ w ∈ Ts, w.before args s = true) (hT : GoodIn Ts (wsV own index C y ws)) (hw : ws = Cond.codeWith y bytes maxL ret hh :: ws') (hrc : rm.cells = mc) (hrs : rm.slots = ms)
    (hd : y.cls = C ∧ y.cls ≠ "java/lang/invoke/MethodHandle" ∧ y.cls ≠ "java/lang/invoke/VarHandle" ∧ (parseMethodDescriptor y.desc).map (fun d => d.parameters.length) = some n) (hR : rm.frames + 1 ≤ R.frames ∧ 8 + (maxL + 11) + rm.locals ≤ R.locals) :
    vx_CVW R s args own C index y bytes maxL ret hh ws rm mc ms n := by
  obtain ⟨hC, hd⟩ := hd
  subst hC
  have ok : ∀ w ∈ wsV own index y.cls y ws, w.before args s = true := fun w h => ht w (hT w h).1
  have hG : GoodIn Ts ws := fun w h => hT w (by unfold wsV; exact List.mem_append_right _ h)
  have hc : Cond.codeWith y bytes maxL ret hh ∈ ws := by rw [hw]; exact List.mem_cons_self
  refine ⟨⟨hrc, hrs, hR.1, hR.2, pay_in ht hG, hc⟩, ht _ (hG _ hc).1, ok _ (by simp [wsV]), ⟨hd.1, hd.2.1⟩, fun sig h => ?_, ok _ (by simp [wsV]), ok _ (by simp [wsV]), ok _ (by simp [wsV])⟩
  have h2 := hd.2.2
  rw [h] at h2
  exact (Option.some.inj h2).symm
theorem vx_runVW {y : MethodName} {bytes cc : ByteArray} {maxL nL mc ms n index : Nat} {ret : Option FieldType} {hh : List (Nat × Nat × Nat × Nat)} {ws : List Cond} {rm : Room} {Pc : Array Value → State → Prop} {Qc : Array Value → State → Outcome → State → Prop} {free : Addr → Prop} {Ts : List Cond} {own C : String} {b : Addr} {As rest : List Value} {g : JFrame}
    (S : CallFix p m c cc nL s args Ts own) (hM : Met l y ws rm Pc Qc mc ms free) (cw : vx_CVW R s args own C index y bytes maxL ret hh ws rm mc ms n) (hp : PreV s H C b Pc As)
    (hg : g.method = m) (hn : As.length = n) (hsize : g.locals.size = nL) (hstack : g.stack = As.reverse ++ .ref b :: rest) (hW : 2 * g.monitorRoom + (rest.map fun v => v.category).sum ≤ 8) (hdg : decode cc g.pc = .ok (.invokevirtual index, 3)) (hf : cells + mc ≤ R.cells ∧ slots + ms ≤ R.slots) :
    va_Run p l e R s m args below meth c H locs cells slots mc ms g rest (Qc (Value.ref b :: As).toArray) free := by
  obtain ⟨⟨hrc, hrs, hfr, hlo, hws, hcw⟩, hcode, hini, hy, hlen, hl, hin, hse⟩ := cw
  have hK : Back l R p e below s args y 3 8 (PreOf R mc ms Pc) (PostOf Qc mc ms free) := va_backW (hh := hh) (bytes := bytes) (maxL := maxL) (ret := ret) hM hp.1 hrc hrs hfr hlo hws hcw (fun a' U hW => word_at hW (Or.inl (by first | rfl | simp [Cond.onTables, Cond.keeps, Cond.steady])) hini)
  obtain ⟨hx, hb, hml, ho, -⟩ := S
  obtain ⟨-, ⟨cellB, hcB, hoB, hclB⟩, hPc⟩ := hp
  intro T hT X
  obtain ⟨v, vm₁, ⟨U', l2, c2, s2⟩, hW₁, X', ⟨g', mk, t, L, e1, e2, hq, h1, hL, h2, h3⟩, st⟩ := vx_callVW X hx (C := C) (hh := hh) (bytes := bytes) (maxL := maxL) (ret := ret) ho hl hin hse hcode hy hK (by rw [hT]; exact hcB) hoB hclB hg (hsize.trans hml.symm) (argsL := As) (rest := rest) (fun sig h => hn.trans (hlen sig h)) hstack hW (by rw [hb]; exact hdg)
    (fun vm₁ hW₁ => ⟨hf.1, hf.2, hPc (T.setVm vm₁) hT hW₁⟩)
  dsimp only [Pt.U, Pt.locs, Pt.cells, Pt.slots] at X' e1 e2 h1 h2 h3 st
  subst h1; subst h2; subst h3
  exact ⟨v, (T.setVm vm₁).calling g' mk (Value.ref b :: As).toArray, t, U', L, hT, X', hL, e1, e2, hq, st⟩
section
variable {y : MethodName} {bytes cc : ByteArray} {maxL nL mc ms n index : Nat} {ret : Option FieldType} {ws : List Cond} {rm : Room} {Pc : Array Value → State → Prop} {Qc : Array Value → State → Outcome → State → Prop} {XC : String → State → State → Prop} {free : Addr → Prop} {Ts : List Cond} {own C : String} {b : Addr} {As rest : List Value} {g : JFrame}
theorem vx_runVX {hh : List (Nat × Nat × Nat × Nat)} (S : CallFix p m c cc nL s args Ts own) (hM : vx_Met l y ws rm Pc Qc XC mc ms free) (cw : vx_CVW R s args own C index y bytes maxL ret hh ws rm mc ms n) (hp : PreV s H C b Pc As)
    (hg : g.method = m) (hn : As.length = n) (hsize : g.locals.size = nL) (hstack : g.stack = As.reverse ++ .ref b :: rest) (hW : 2 * g.monitorRoom + (rest.map fun v => v.category).sum ≤ 8) (hdg : decode cc g.pc = .ok (.invokevirtual index, 3)) (hf : cells + mc ≤ R.cells ∧ slots + ms ≤ R.slots) :
    vx_Run p l e R s m args below meth c H locs cells slots mc ms g rest (Qc (Value.ref b :: As).toArray) XC free := by
  obtain ⟨⟨hrc, hrs, hfr, hlo, hws, hcw⟩, hcode, hini, hy, hlen, hl, hin, hse⟩ := cw
  have hK : vx_Back l R p e below s args y 3 8 (PreOf R mc ms Pc) (PostOf Qc mc ms free) (vx_Post XC mc ms free) := vx_backW (hh := hh) (bytes := bytes) (maxL := maxL) (ret := ret) hM hp.1 hrc hrs hfr hlo hws hcw (fun a' U hW => word_at hW (Or.inl (by first | rfl | simp [Cond.onTables, Cond.keeps, Cond.steady])) hini)
  obtain ⟨hx, hb, hml, ho, -⟩ := S
  obtain ⟨-, ⟨cellB, hcB, hoB, hclB⟩, hPc⟩ := hp
  intro T hT X
  rcases vx_callVX X hx (C := C) (hh := hh) (bytes := bytes) (maxL := maxL) (ret := ret) ho hl hin hse hcode hy hK (by rw [hT]; exact hcB) hoB hclB hg (hsize.trans hml.symm) (argsL := As) (rest := rest) (fun sig h => hn.trans (hlen sig h)) hstack hW (by rw [hb]; exact hdg)
    (fun vm₁ hW₁ => ⟨hf.1, hf.2, hPc (T.setVm vm₁) hT hW₁⟩) with ⟨v, vm₁, ⟨U', l2, c2, s2⟩, hW₁, X', ⟨g', mk, t, L, e1, e2, hq, h1, hL, h2, h3⟩, st⟩ | ⟨q, vm₁, ⟨U', l2, c2, s2⟩, hW₁, X', ⟨g', mk, t, L, E, ce, e1, e2, hq, hce, hcv, hcl, h1, hL, h2, h3⟩, st⟩
  · dsimp only [Pt.U, Pt.locs, Pt.cells, Pt.slots] at X' e1 e2 h1 h2 h3 st
    subst h1; subst h2; subst h3
    exact Or.inl ⟨v, (T.setVm vm₁).calling g' mk (Value.ref b :: As).toArray, t, U', L, hT, X', hL, e1, e2, hq, st⟩
  · dsimp only [Pt.U, Pt.locs, Pt.cells, Pt.slots] at X' e1 e2 h1 h2 h3 st hcl
    subst h1; subst h2; subst h3
    exact Or.inr ⟨q, (T.setVm vm₁).calling g' mk (Value.ref b :: As).toArray, t, U', L, E, ce, hT, X', hL, e1, e2, hq, hce, hcv, vx_cls hW₁ hcl, st⟩
theorem vx_runSX {hh : List (Nat × Nat × Nat × Nat)} (S : CallFix p m c cc nL s args Ts own) (hM : vx_Met l y ws rm Pc Qc XC mc ms free) (cw : vx_CSW R s args own index y bytes maxL ret hh ws rm mc ms n) (hp : PreS s H Pc As)
    (hg : g.method = m) (hn : As.length = n) (hsize : g.locals.size = nL) (hstack : g.stack = As.reverse ++ rest) (hW : 2 * g.monitorRoom + (rest.map fun v => v.category).sum ≤ 8) (hdg : decode cc g.pc = .ok (.invokestatic index, 3)) (hf : cells + mc ≤ R.cells ∧ slots + ms ≤ R.slots) :
    vx_Run p l e R s m args below meth c H locs cells slots mc ms g rest (Qc As.toArray) XC free := by
  obtain ⟨⟨hrc, hrs, hfr, hlo, hws, hcw⟩, hcode, hini, hy, hlen, hl, hstt⟩ := cw
  have hK : vx_Back l R p e below s args y 3 8 (PreOf R mc ms Pc) (PostOf Qc mc ms free) (vx_Post XC mc ms free) := vx_backW (hh := hh) (bytes := bytes) (maxL := maxL) (ret := ret) hM hp.1 hrc hrs hfr hlo hws hcw (fun a' U hW => word_at hW (Or.inl (by first | rfl | simp [Cond.onTables, Cond.keeps, Cond.steady])) hini)
  obtain ⟨hx, hb, hml, ho, -⟩ := S
  intro T hT X
  rcases vx_callSX X hx (hh := hh) (bytes := bytes) (maxL := maxL) (ret := ret) ho hl hstt hini hcode hy hK hg (hsize.trans hml.symm) (argsL := As) (rest := rest) (fun sig h => hn.trans (hlen sig h)) hstack hW (by rw [hb]; exact hdg)
    (fun vm₁ hW₁ => ⟨hf.1, hf.2, hp.2 (T.setVm vm₁) hT hW₁⟩) with ⟨v, vm₁, ⟨U', l2, c2, s2⟩, hW₁, X', ⟨g', mk, t, L, e1, e2, hq, h1, hL, h2, h3⟩, st⟩ | ⟨q, vm₁, ⟨U', l2, c2, s2⟩, hW₁, X', ⟨g', mk, t, L, E, ce, e1, e2, hq, hce, hcv, hcl, h1, hL, h2, h3⟩, st⟩
  · dsimp only [Pt.U, Pt.locs, Pt.cells, Pt.slots] at X' e1 e2 h1 h2 h3 st
    subst h1; subst h2; subst h3
    exact Or.inl ⟨v, (T.setVm vm₁).calling g' mk As.toArray, t, U', L, hT, X', hL, e1, e2, hq, st⟩
  · dsimp only [Pt.U, Pt.locs, Pt.cells, Pt.slots] at X' e1 e2 h1 h2 h3 st hcl
    subst h1; subst h2; subst h3
    exact Or.inr ⟨q, (T.setVm vm₁).calling g' mk As.toArray, t, U', L, E, ce, hT, X', hL, e1, e2, hq, hce, hcv, vx_cls hW₁ hcl, st⟩
end
end VXH
theorem vx_ofWH {l : Launch} {y : MethodName} {ws ws' : List Cond} {rm : Room} {Pc : Array Value → State → Prop} {Qc : Array Value → State → Outcome → State → Prop} {XC : String → State → State → Prop} {mc ms : Nat} {free : Addr → Prop} {cc : ByteArray} {maxL : Nat} {ret : Option FieldType} {hh : List (Nat × Nat × Nat × Nat)}
    (hy : plainName y.cls = true) (hw : ws = Cond.codeWith y cc maxL ret hh :: ws')
    (body : ∀ p e s m args below meth c s₁, BodyLoose p l y (headSpec ws rm) cc maxL ret e s m args below meth c s₁ → c.maxLocals = maxL → Pc args s →
      W p l e (headSpec ws rm).room s m args below meth c s.heap [] 0 0 (vx_MQ below Qc XC args s mc ms free) (entryFrame m args maxL)) : vx_Met l y ws rm Pc Qc XC mc ms free := by
  refine MetFree.of_bodyS (code := cc) (maxLocals := maxL) (ret := ret) hy ?_ ?_
  · intro args s m h hn
    obtain ⟨m9, meth, c, hn9, h1, h2, h3, h4, -, h5, h6, -⟩ := Cond.codeWith_spec (atoms_spec (ws := ws) h _ (by rw [hw]; exact List.mem_cons_self))
    cases hn.symm.trans hn9
    exact ⟨meth, c, h1, h2, h3, h4, h5, h6⟩
  · intro p e s m args below meth c s₁ B hml hP _
    have hh0 : s₁.heap = s.heap := by rw [B.state]; rfl
    obtain ⟨t, a1, o, b1, b2, b3⟩ := body p e s m args below meth c s₁ B hml hP s₁ hh0 (Stand.of_body B)
    exact ⟨t, o, a1, b1, b2, b3⟩
/-! ===== END ===== -/
end
section
def RX0 : String := "Spanjudge$Endings"
def TX0 : u_T := fun k => match k with
  | 0 => ("Spanjudge$Endings", "alikeAt", "[[I", true)
  | 1 => ("Spanjudge$Endings", "ways", "[[I", true)
  | 2 => ("Spanjudge$Endings", "inOrder", "[I", true)
  | 3 => ("Spanjudge$Endings", "factorBegins", "[I", true)
  | 4 => ("Spanjudge$Endings", "factorCount", "I", false)
  | 5 => ("Spanjudge$Endings", "numbers", "[J", false)
  | 6 => ("Spanjudge$Endings", "size", "I", false)
  | _ => ("Spanjudge$Endings", "unsigned", "Z", false)
def tyX0 : Nat → FieldType := fun k => match k with
  | 0 => .array (.array .int)
  | 1 => .array (.array .int)
  | 2 => .array .int
  | 3 => .array .int
  | 4 => .int
  | 5 => .array .long
  | 6 => .int
  | _ => .boolean
abbrev wsX00 : List Cond := u_ws RX0 TX0 8
theorem nmX0 : ∀ a, a < 8 → ∀ b, b < 8 → a ≠ b → (TX0 a).2.1 ≠ (TX0 b).2.1 := by decide +kernel
theorem tyX0_ok : ∀ k, k < 8 → parseFieldDescriptor (TX0 k).2.2.1 = some (tyX0 k) := by decide +kernel
abbrev cX0_init : ByteArray := prog_2_method_1_code
def yX0_init : MethodName := ⟨RX0, "<init>", "()V"⟩
abbrev cX0_take : ByteArray := prog_2_method_2_code
def yX0_take : MethodName := ⟨RX0, "take", "(LSpanjudge$Row;Z)V"⟩
abbrev cX0_compareParts : ByteArray := prog_2_method_3_code
def yX0_compareParts : MethodName := ⟨RX0, "compareParts", "(IIII)I"⟩
abbrev cX0_putInOrder : ByteArray := prog_2_method_4_code
def yX0_putInOrder : MethodName := ⟨RX0, "putInOrder", "()V"⟩
abbrev cX0_countWords : ByteArray := prog_2_method_5_code
def yX0_countWords : MethodName := ⟨RX0, "countWords", "()I"⟩
abbrev cX0_longestTwice : ByteArray := prog_2_method_6_code
def yX0_longestTwice : MethodName := ⟨RX0, "longestTwice", "()I"⟩
abbrev cX0_mostAlikeAhead : ByteArray := prog_2_method_7_code
def yX0_mostAlikeAhead : MethodName := ⟨RX0, "mostAlikeAhead", "(I)I"⟩
abbrev cX0_split : ByteArray := prog_2_method_8_code
def yX0_split : MethodName := ⟨RX0, "split", "()V"⟩
abbrev cX0_factorEnd : ByteArray := prog_2_method_9_code
def yX0_factorEnd : MethodName := ⟨RX0, "factorEnd", "(I)I"⟩
abbrev cX0_isLyndon : ByteArray := prog_2_method_10_code
def yX0_isLyndon : MethodName := ⟨RX0, "isLyndon", "(II)Z"⟩
abbrev cX0_countWays : ByteArray := prog_2_method_11_code
def yX0_countWays : MethodName := ⟨RX0, "countWays", "()I"⟩
abbrev cX0_waysBehind : ByteArray := prog_2_method_12_code
def yX0_waysBehind : MethodName := ⟨RX0, "waysBehind", "(II)I"⟩
def RX1 : String := "Spanjudge$Row"
def TX1 : u_T := fun k => match k with
  | 0 => ("Spanjudge$Row", "numbers", "[J", true)
  | _ => ("Spanjudge$Row", "size", "I", false)
def tyX1 : Nat → FieldType := fun k => match k with
  | 0 => .array .long
  | _ => .int
abbrev wsX10 : List Cond := u_ws RX1 TX1 2
theorem nmX1 : ∀ a, a < 2 → ∀ b, b < 2 → a ≠ b → (TX1 a).2.1 ≠ (TX1 b).2.1 := by decide +kernel
theorem tyX1_ok : ∀ k, k < 2 → parseFieldDescriptor (TX1 k).2.2.1 = some (tyX1 k) := by decide +kernel
abbrev cX1_init : ByteArray := prog_3_method_1_code
def yX1_init : MethodName := ⟨RX1, "<init>", "()V"⟩
abbrev cX1_hasPeriod : ByteArray := prog_3_method_2_code
def yX1_hasPeriod : MethodName := ⟨RX1, "hasPeriod", "(I)Z"⟩
abbrev cX1_compareRotations : ByteArray := prog_3_method_3_code
def yX1_compareRotations : MethodName := ⟨RX1, "compareRotations", "(IIZ)I"⟩
abbrev cX1_atRound : ByteArray := prog_3_method_4_code
def yX1_atRound : MethodName := ⟨RX1, "atRound", "(I)J"⟩
def RX2 : String := "Spanjudge$RowTheorem"
def TX2 : u_T := fun k => match k with
  | _ => ("", "", "", false)
def tyX2 : Nat → FieldType := fun k => match k with
  | _ => .int
abbrev wsX20 : List Cond := u_ws RX2 TX2 0
theorem nmX2 : ∀ a, a < 0 → ∀ b, b < 0 → a ≠ b → (TX2 a).2.1 ≠ (TX2 b).2.1 := by decide +kernel
theorem tyX2_ok : ∀ k, k < 0 → parseFieldDescriptor (TX2 k).2.2.1 = some (tyX2 k) := by decide +kernel
abbrev cX2_countIsTrue : ByteArray := prog_4_method_2_code
def yX2_countIsTrue : MethodName := ⟨RX2, "countIsTrue", "(LSpanjudge$Endings;)Z"⟩
abbrev cX2_periodsAreTrue : ByteArray := prog_4_method_3_code
def yX2_periodsAreTrue : MethodName := ⟨RX2, "periodsAreTrue", "(LSpanjudge$Row;LSpanjudge$Endings;)Z"⟩
abbrev cX2_divisorIsTrue : ByteArray := prog_4_method_4_code
def yX2_divisorIsTrue : MethodName := ⟨RX2, "divisorIsTrue", "(LSpanjudge$Row;II)Z"⟩
abbrev cX2_greatestDivisor : ByteArray := prog_4_method_5_code
def yX2_greatestDivisor : MethodName := ⟨RX2, "greatestDivisor", "(II)I"⟩
abbrev cX2_factorsAreTrue : ByteArray := prog_4_method_6_code
def yX2_factorsAreTrue : MethodName := ⟨RX2, "factorsAreTrue", "(LSpanjudge$Endings;)Z"⟩
def RX3 : String := "Spanjudge$Span"
def TX3 : u_T := fun k => match k with
  | 0 => ("Spanjudge$Span", "row", "I", false)
  | 1 => ("Spanjudge$Span", "from", "I", false)
  | _ => ("Spanjudge$Span", "to", "I", false)
def tyX3 : Nat → FieldType := fun k => match k with
  | 0 => .int
  | 1 => .int
  | _ => .int
abbrev wsX30 : List Cond := u_ws RX3 TX3 3
theorem nmX3 : ∀ a, a < 3 → ∀ b, b < 3 → a ≠ b → (TX3 a).2.1 ≠ (TX3 b).2.1 := by decide +kernel
theorem tyX3_ok : ∀ k, k < 3 → parseFieldDescriptor (TX3 k).2.2.1 = some (tyX3 k) := by decide +kernel
abbrev cX3_init : ByteArray := prog_5_method_1_code
def yX3_init : MethodName := ⟨RX3, "<init>", "()V"⟩
def RX4 : String := "Spanjudge$Word"
def TX4 : u_T := fun k => match k with
  | 0 => ("Spanjudge$Word", "numbers", "[J", true)
  | 1 => ("Spanjudge$Word", "from", "I", true)
  | _ => ("Spanjudge$Word", "to", "I", true)
def tyX4 : Nat → FieldType := fun k => match k with
  | 0 => .array .long
  | 1 => .int
  | _ => .int
abbrev wsX40 : List Cond := u_ws RX4 TX4 3
theorem nmX4 : ∀ a, a < 3 → ∀ b, b < 3 → a ≠ b → (TX4 a).2.1 ≠ (TX4 b).2.1 := by decide +kernel
theorem tyX4_ok : ∀ k, k < 3 → parseFieldDescriptor (TX4 k).2.2.1 = some (tyX4 k) := by decide +kernel
abbrev cX4_init : ByteArray := prog_6_method_1_code
def yX4_init : MethodName := ⟨RX4, "<init>", "([JII)V"⟩
abbrev cX4_size : ByteArray := prog_6_method_2_code
def yX4_size : MethodName := ⟨RX4, "size", "()I"⟩
abbrev cX4_at : ByteArray := prog_6_method_3_code
def yX4_at : MethodName := ⟨RX4, "at", "(I)J"⟩
abbrev cX4_changedBy : ByteArray := prog_6_method_4_code
def yX4_changedBy : MethodName := ⟨RX4, "changedBy", "(IC)LSpanjudge$Word;"⟩
def RX5 : String := "Spanjudge$WordTheorem"
def TX5 : u_T := fun k => match k with
  | _ => ("", "", "", false)
def tyX5 : Nat → FieldType := fun k => match k with
  | _ => .int
abbrev wsX50 : List Cond := u_ws RX5 TX5 0
theorem nmX5 : ∀ a, a < 0 → ∀ b, b < 0 → a ≠ b → (TX5 a).2.1 ≠ (TX5 b).2.1 := by decide +kernel
theorem tyX5_ok : ∀ k, k < 0 → parseFieldDescriptor (TX5 k).2.2.1 = some (tyX5 k) := by decide +kernel
abbrev cX5_holds : ByteArray := prog_7_method_2_code
def yX5_holds : MethodName := ⟨RX5, "holds", "(I[LSpanjudge$Word;)Z"⟩
abbrev cX5_changedWords : ByteArray := prog_7_method_3_code
def yX5_changedWords : MethodName := ⟨RX5, "changedWords", "(IC[LSpanjudge$Word;)[LSpanjudge$Word;"⟩
abbrev cX5_alikeIsTrue : ByteArray := prog_7_method_4_code
def yX5_alikeIsTrue : MethodName := ⟨RX5, "alikeIsTrue", "(LSpanjudge$Word;LSpanjudge$Word;)Z"⟩
abbrev cX5_orderIsTrue : ByteArray := prog_7_method_5_code
def yX5_orderIsTrue : MethodName := ⟨RX5, "orderIsTrue", "(LSpanjudge$Word;LSpanjudge$Word;Z)Z"⟩
abbrev cX5_isUnsignedOf : ByteArray := prog_7_method_6_code
def yX5_isUnsignedOf : MethodName := ⟨RX5, "isUnsignedOf", "(LSpanjudge$Word;LSpanjudge$Word;LSpanjudge$Word;LSpanjudge$Word;)Z"⟩
abbrev cX5_threeAreTrue : ByteArray := prog_7_method_7_code
def yX5_threeAreTrue : MethodName := ⟨RX5, "threeAreTrue", "([LSpanjudge$Word;Z)Z"⟩
abbrev cX5_chainIsTrue : ByteArray := prog_7_method_8_code
def yX5_chainIsTrue : MethodName := ⟨RX5, "chainIsTrue", "(LSpanjudge$Word;LSpanjudge$Word;LSpanjudge$Word;Z)Z"⟩
def RX6 : String := "Spanjudge"
def TX6 : u_T := fun k => match k with
  | 0 => ("Spanjudge", "rows", "[LSpanjudge$Row;", true)
  | 1 => ("Spanjudge", "spans", "[LSpanjudge$Span;", true)
  | 2 => ("Spanjudge", "list", "[I", true)
  | 3 => ("Spanjudge", "endings", "LSpanjudge$Endings;", true)
  | _ => ("Spanjudge", "listSize", "I", false)
def tyX6 : Nat → FieldType := fun k => match k with
  | 0 => .array (.object "Spanjudge$Row")
  | 1 => .array (.object "Spanjudge$Span")
  | 2 => .array .int
  | 3 => .object "Spanjudge$Endings"
  | _ => .int
abbrev wsX60 : List Cond := u_ws RX6 TX6 5
theorem nmX6 : ∀ a, a < 5 → ∀ b, b < 5 → a ≠ b → (TX6 a).2.1 ≠ (TX6 b).2.1 := by decide +kernel
theorem tyX6_ok : ∀ k, k < 5 → parseFieldDescriptor (TX6 k).2.2.1 = some (tyX6 k) := by decide +kernel
abbrev cX6_init : ByteArray := prog_1_method_1_code
def yX6_init : MethodName := ⟨RX6, "<init>", "()V"⟩
abbrev cX6_append : ByteArray := prog_1_method_2_code
def yX6_append : MethodName := ⟨RX6, "append", "(CIJ)I"⟩
abbrev cX6_set : ByteArray := prog_1_method_3_code
def yX6_set : MethodName := ⟨RX6, "set", "(CIIJ)J"⟩
abbrev cX6_number : ByteArray := prog_1_method_4_code
def yX6_number : MethodName := ⟨RX6, "number", "(CII)J"⟩
abbrev cX6_length : ByteArray := prog_1_method_5_code
def yX6_length : MethodName := ⟨RX6, "length", "(CI)I"⟩
abbrev cX6_clear : ByteArray := prog_1_method_6_code
def yX6_clear : MethodName := ⟨RX6, "clear", "(CI)I"⟩
abbrev cX6_repeat : ByteArray := prog_1_method_7_code
def yX6_repeat : MethodName := ⟨RX6, "repeat", "(CII)I"⟩
abbrev cX6_reverse : ByteArray := prog_1_method_8_code
def yX6_reverse : MethodName := ⟨RX6, "reverse", "(CI)I"⟩
abbrev cX6_cut : ByteArray := prog_1_method_9_code
def yX6_cut : MethodName := ⟨RX6, "cut", "(CIII)I"⟩
abbrev cX6_convert : ByteArray := prog_1_method_10_code
def yX6_convert : MethodName := ⟨RX6, "convert", "(CICIC)I"⟩
abbrev cX6_span : ByteArray := prog_1_method_11_code
def yX6_span : MethodName := ⟨RX6, "span", "(IIII)I"⟩
abbrev cX6_tells : ByteArray := prog_1_method_12_code
def yX6_tells : MethodName := ⟨RX6, "tells", "(IC)I"⟩
abbrev cX6_fits : ByteArray := prog_1_method_13_code
def yX6_fits : MethodName := ⟨RX6, "fits", "(CI)Z"⟩
abbrev cX6_asks : ByteArray := prog_1_method_14_code
def yX6_asks : MethodName := ⟨RX6, "asks", "(CCII)I"⟩
abbrev cX6_asksRows : ByteArray := prog_1_method_15_code
def yX6_asksRows : MethodName := ⟨RX6, "asksRows", "(CCII)I"⟩
abbrev cX6_refused : ByteArray := prog_1_method_16_code
def yX6_refused : MethodName := ⟨RX6, "refused", "(CCIII)I"⟩
abbrev cX6_common : ByteArray := prog_1_method_17_code
def yX6_common : MethodName := ⟨RX6, "common", "(CII)I"⟩
abbrev cX6_rank : ByteArray := prog_1_method_18_code
def yX6_rank : MethodName := ⟨RX6, "rank", "(CCI)I"⟩
abbrev cX6_sort : ByteArray := prog_1_method_19_code
def yX6_sort : MethodName := ⟨RX6, "sort", "(CC)I"⟩
abbrev cX6_sorted : ByteArray := prog_1_method_20_code
def yX6_sorted : MethodName := ⟨RX6, "sorted", "(I)I"⟩
abbrev cX6_ending : ByteArray := prog_1_method_21_code
def yX6_ending : MethodName := ⟨RX6, "ending", "(CCII)I"⟩
abbrev cX6_distinct : ByteArray := prog_1_method_22_code
def yX6_distinct : MethodName := ⟨RX6, "distinct", "(CI)I"⟩
abbrev cX6_longest : ByteArray := prog_1_method_23_code
def yX6_longest : MethodName := ⟨RX6, "longest", "(CI)I"⟩
abbrev cX6_occurs : ByteArray := prog_1_method_24_code
def yX6_occurs : MethodName := ⟨RX6, "occurs", "(CII)I"⟩
abbrev cX6_isPeriod : ByteArray := prog_1_method_25_code
def yX6_isPeriod : MethodName := ⟨RX6, "isPeriod", "(CII)Z"⟩
abbrev cX6_period : ByteArray := prog_1_method_26_code
def yX6_period : MethodName := ⟨RX6, "period", "(CI)I"⟩
abbrev cX6_root : ByteArray := prog_1_method_27_code
def yX6_root : MethodName := ⟨RX6, "root", "(CI)I"⟩
abbrev cX6_rotation : ByteArray := prog_1_method_28_code
def yX6_rotation : MethodName := ⟨RX6, "rotation", "(CCI)I"⟩
abbrev cX6_factors : ByteArray := prog_1_method_29_code
def yX6_factors : MethodName := ⟨RX6, "factors", "(CCI)I"⟩
abbrev cX6_factor : ByteArray := prog_1_method_30_code
def yX6_factor : MethodName := ⟨RX6, "factor", "(CCII)I"⟩
abbrev cX6_share : ByteArray := prog_1_method_31_code
def yX6_share : MethodName := ⟨RX6, "share", "(C)F"⟩
abbrev cX6_mean : ByteArray := prog_1_method_32_code
def yX6_mean : MethodName := ⟨RX6, "mean", "(C)D"⟩
abbrev cX6_checksum : ByteArray := prog_1_method_33_code
def yX6_checksum : MethodName := ⟨RX6, "checksum", "()J"⟩
abbrev cX6_isTrue : ByteArray := prog_1_method_34_code
def yX6_isTrue : MethodName := ⟨RX6, "isTrue", "(CIII)Z"⟩
abbrev cX6_rowIsTrue : ByteArray := prog_1_method_35_code
def yX6_rowIsTrue : MethodName := ⟨RX6, "rowIsTrue", "(CCI)Z"⟩
abbrev cX6_kindOf : ByteArray := prog_1_method_36_code
def yX6_kindOf : MethodName := ⟨RX6, "kindOf", "(C)I"⟩
abbrev cX6_isUnsigned : ByteArray := prog_1_method_37_code
def yX6_isUnsigned : MethodName := ⟨RX6, "isUnsigned", "(C)Z"⟩
abbrev cX6_wantQuestion : ByteArray := prog_1_method_38_code
def yX6_wantQuestion : MethodName := ⟨RX6, "wantQuestion", "(C)V"⟩
abbrev cX6_wantNumber : ByteArray := prog_1_method_39_code
def yX6_wantNumber : MethodName := ⟨RX6, "wantNumber", "(IJ)V"⟩
abbrev cX6_wantRow : ByteArray := prog_1_method_40_code
def yX6_wantRow : MethodName := ⟨RX6, "wantRow", "(I)V"⟩
abbrev cX6_wantPlace : ByteArray := prog_1_method_41_code
def yX6_wantPlace : MethodName := ⟨RX6, "wantPlace", "(II)V"⟩
abbrev cX6_rowOf : ByteArray := prog_1_method_42_code
def yX6_rowOf : MethodName := ⟨RX6, "rowOf", "(II)LSpanjudge$Row;"⟩
abbrev cX6_spanOf : ByteArray := prog_1_method_43_code
def yX6_spanOf : MethodName := ⟨RX6, "spanOf", "(I)LSpanjudge$Span;"⟩
abbrev cX6_fittingWord : ByteArray := prog_1_method_44_code
def yX6_fittingWord : MethodName := ⟨RX6, "fittingWord", "(ILSpanjudge$Span;)LSpanjudge$Word;"⟩
abbrev cX6_isFitting : ByteArray := prog_1_method_45_code
def yX6_isFitting : MethodName := ⟨RX6, "isFitting", "(ILSpanjudge$Span;)Z"⟩
abbrev cX6_wordOf : ByteArray := prog_1_method_46_code
def yX6_wordOf : MethodName := ⟨RX6, "wordOf", "(ILSpanjudge$Span;)LSpanjudge$Word;"⟩
abbrev cX6_putIntoList : ByteArray := prog_1_method_47_code
def yX6_putIntoList : MethodName := ⟨RX6, "putIntoList", "(IZI)V"⟩
abbrev cX6_fittingAhead : ByteArray := prog_1_method_48_code
def yX6_fittingAhead : MethodName := ⟨RX6, "fittingAhead", "(II)I"⟩
abbrev cX6_sameAhead : ByteArray := prog_1_method_49_code
def yX6_sameAhead : MethodName := ⟨RX6, "sameAhead", "(II)I"⟩
abbrev cX6_isNumberOf : ByteArray := prog_1_method_50_code
def yX6_isNumberOf : MethodName := ⟨RX6, "isNumberOf", "(IJ)Z"⟩
abbrev cX6_compareNumbers : ByteArray := prog_1_method_51_code
def yX6_compareNumbers : MethodName := ⟨RX6, "compareNumbers", "(JJZ)I"⟩
abbrev cX6_canChange : ByteArray := prog_1_method_52_code
def yX6_canChange : MethodName := ⟨RX6, "canChange", "(ICJI)Z"⟩
abbrev cX6_changed : ByteArray := prog_1_method_53_code
def yX6_changed : MethodName := ⟨RX6, "changed", "(ICJ)J"⟩
abbrev cX6_alike : ByteArray := prog_1_method_54_code
def yX6_alike : MethodName := ⟨RX6, "alike", "(LSpanjudge$Word;LSpanjudge$Word;)I"⟩
abbrev cX6_isSame : ByteArray := prog_1_method_55_code
def yX6_isSame : MethodName := ⟨RX6, "isSame", "(LSpanjudge$Word;LSpanjudge$Word;)Z"⟩
abbrev cX6_mismatch : ByteArray := prog_1_method_56_code
def yX6_mismatch : MethodName := ⟨RX6, "mismatch", "(LSpanjudge$Word;LSpanjudge$Word;)I"⟩
abbrev cX6_compareWords : ByteArray := prog_1_method_57_code
def yX6_compareWords : MethodName := ⟨RX6, "compareWords", "(LSpanjudge$Word;LSpanjudge$Word;Z)I"⟩
abbrev cX6_answer : ByteArray := prog_1_method_58_code
def yX6_answer : MethodName := ⟨RX6, "answer", "(CLSpanjudge$Word;LSpanjudge$Word;)I"⟩
def RX7 : String := "SpanjudgeModel"
def TX7 : u_T := fun k => match k with
  | 0 => ("SpanjudgeModel", "of", "[J", true)
  | 1 => ("SpanjudgeModel", "length", "[I", true)
  | 2 => ("SpanjudgeModel", "spanRow", "[I", true)
  | 3 => ("SpanjudgeModel", "spanFrom", "[I", true)
  | 4 => ("SpanjudgeModel", "spanTo", "[I", true)
  | 5 => ("SpanjudgeModel", "list", "[I", true)
  | 6 => ("SpanjudgeModel", "listed", "I", false)
  | _ => ("SpanjudgeModel", "code", "I", false)
def tyX7 : Nat → FieldType := fun k => match k with
  | 0 => .array .long
  | 1 => .array .int
  | 2 => .array .int
  | 3 => .array .int
  | 4 => .array .int
  | 5 => .array .int
  | 6 => .int
  | _ => .int
abbrev wsX70 : List Cond := u_ws RX7 TX7 8
theorem nmX7 : ∀ a, a < 8 → ∀ b, b < 8 → a ≠ b → (TX7 a).2.1 ≠ (TX7 b).2.1 := by decide +kernel
theorem tyX7_ok : ∀ k, k < 8 → parseFieldDescriptor (TX7 k).2.2.1 = some (tyX7 k) := by decide +kernel
abbrev cX7_init : ByteArray := prog_9_method_1_code
def yX7_init : MethodName := ⟨RX7, "<init>", "()V"⟩
abbrev cX7_thrown : ByteArray := prog_9_method_2_code
def yX7_thrown : MethodName := ⟨RX7, "thrown", "()I"⟩
abbrev cX7_fails : ByteArray := prog_9_method_3_code
def yX7_fails : MethodName := ⟨RX7, "fails", "(I)Z"⟩
abbrev cX7_in : ByteArray := prog_9_method_4_code
def yX7_in : MethodName := ⟨RX7, "in", "(JJJ)Z"⟩
abbrev cX7_kindOf : ByteArray := prog_9_method_5_code
def yX7_kindOf : MethodName := ⟨RX7, "kindOf", "(C)I"⟩
abbrev cX7_isKind : ByteArray := prog_9_method_6_code
def yX7_isKind : MethodName := ⟨RX7, "isKind", "(C)Z"⟩
abbrev cX7_isOrder : ByteArray := prog_9_method_7_code
def yX7_isOrder : MethodName := ⟨RX7, "isOrder", "(C)Z"⟩
abbrev cX7_isAsk : ByteArray := prog_9_method_8_code
def yX7_isAsk : MethodName := ⟨RX7, "isAsk", "(C)Z"⟩
abbrev cX7_isRow : ByteArray := prog_9_method_9_code
def yX7_isRow : MethodName := ⟨RX7, "isRow", "(I)Z"⟩
abbrev cX7_isSpan : ByteArray := prog_9_method_10_code
def yX7_isSpan : MethodName := ⟨RX7, "isSpan", "(I)Z"⟩
abbrev cX7_isOf : ByteArray := prog_9_method_11_code
def yX7_isOf : MethodName := ⟨RX7, "isOf", "(IJ)Z"⟩
abbrev cX7_size : ByteArray := prog_9_method_12_code
def yX7_size : MethodName := ⟨RX7, "size", "(CI)I"⟩
abbrev cX7_at : ByteArray := prog_9_method_13_code
def yX7_at : MethodName := ⟨RX7, "at", "(CII)I"⟩
abbrev cX7_resize : ByteArray := prog_9_method_14_code
def yX7_resize : MethodName := ⟨RX7, "resize", "(CII)V"⟩
abbrev cX7_noRow : ByteArray := prog_9_method_15_code
def yX7_noRow : MethodName := ⟨RX7, "noRow", "(CI)I"⟩
abbrev cX7_append : ByteArray := prog_9_method_16_code
def yX7_append : MethodName := ⟨RX7, "append", "(CIJ)I"⟩
abbrev cX7_set : ByteArray := prog_9_method_17_code
def yX7_set : MethodName := ⟨RX7, "set", "(CIIJ)J"⟩
abbrev cX7_number : ByteArray := prog_9_method_18_code
def yX7_number : MethodName := ⟨RX7, "number", "(CII)J"⟩
abbrev cX7_length : ByteArray := prog_9_method_19_code
def yX7_length : MethodName := ⟨RX7, "length", "(CI)I"⟩
abbrev cX7_clear : ByteArray := prog_9_method_20_code
def yX7_clear : MethodName := ⟨RX7, "clear", "(CI)I"⟩
abbrev cX7_repeat : ByteArray := prog_9_method_21_code
def yX7_repeat : MethodName := ⟨RX7, "repeat", "(CII)I"⟩
abbrev cX7_reverse : ByteArray := prog_9_method_22_code
def yX7_reverse : MethodName := ⟨RX7, "reverse", "(CI)I"⟩
abbrev cX7_cut : ByteArray := prog_9_method_23_code
def yX7_cut : MethodName := ⟨RX7, "cut", "(CIII)I"⟩
abbrev cX7_half : ByteArray := prog_9_method_24_code
def yX7_half : MethodName := ⟨RX7, "half", "(I)J"⟩
abbrev cX7_convert : ByteArray := prog_9_method_25_code
def yX7_convert : MethodName := ⟨RX7, "convert", "(CICIC)I"⟩
abbrev cX7_span : ByteArray := prog_9_method_26_code
def yX7_span : MethodName := ⟨RX7, "span", "(IIII)I"⟩
abbrev cX7_tells : ByteArray := prog_9_method_27_code
def yX7_tells : MethodName := ⟨RX7, "tells", "(IC)I"⟩
abbrev cX7_isFit : ByteArray := prog_9_method_28_code
def yX7_isFit : MethodName := ⟨RX7, "isFit", "(CI)Z"⟩
abbrev cX7_fits : ByteArray := prog_9_method_29_code
def yX7_fits : MethodName := ⟨RX7, "fits", "(CI)Z"⟩
abbrev cX7_isLess : ByteArray := prog_9_method_30_code
def yX7_isLess : MethodName := ⟨RX7, "isLess", "(JJC)Z"⟩
abbrev cX7_alike : ByteArray := prog_9_method_31_code
def yX7_alike : MethodName := ⟨RX7, "alike", "(CIIIIII)I"⟩
abbrev cX7_compared : ByteArray := prog_9_method_32_code
def yX7_compared : MethodName := ⟨RX7, "compared", "(CCIIIIII)I"⟩
abbrev cX7_answer : ByteArray := prog_9_method_33_code
def yX7_answer : MethodName := ⟨RX7, "answer", "(CCIIIIII)I"⟩
abbrev cX7_many : ByteArray := prog_9_method_34_code
def yX7_many : MethodName := ⟨RX7, "many", "(I)I"⟩
abbrev cX7_noWords : ByteArray := prog_9_method_35_code
def yX7_noWords : MethodName := ⟨RX7, "noWords", "(ZCII)I"⟩
abbrev cX7_asks : ByteArray := prog_9_method_36_code
def yX7_asks : MethodName := ⟨RX7, "asks", "(CCII)I"⟩
abbrev cX7_asksRows : ByteArray := prog_9_method_37_code
def yX7_asksRows : MethodName := ⟨RX7, "asksRows", "(CCII)I"⟩
abbrev cX7_refused : ByteArray := prog_9_method_38_code
def yX7_refused : MethodName := ⟨RX7, "refused", "(CCIII)I"⟩
abbrev cX7_common : ByteArray := prog_9_method_39_code
def yX7_common : MethodName := ⟨RX7, "common", "(CII)I"⟩
abbrev cX7_spans : ByteArray := prog_9_method_40_code
def yX7_spans : MethodName := ⟨RX7, "spans", "(CCII)I"⟩
abbrev cX7_rank : ByteArray := prog_9_method_41_code
def yX7_rank : MethodName := ⟨RX7, "rank", "(CCI)I"⟩
abbrev cX7_sort : ByteArray := prog_9_method_42_code
def yX7_sort : MethodName := ⟨RX7, "sort", "(CC)I"⟩
abbrev cX7_sorted : ByteArray := prog_9_method_43_code
def yX7_sorted : MethodName := ⟨RX7, "sorted", "(I)I"⟩
abbrev cX7_noOrder : ByteArray := prog_9_method_44_code
def yX7_noOrder : MethodName := ⟨RX7, "noOrder", "(CCI)I"⟩
abbrev cX7_endings : ByteArray := prog_9_method_45_code
def yX7_endings : MethodName := ⟨RX7, "endings", "(CCIIII)I"⟩
abbrev cX7_ending : ByteArray := prog_9_method_46_code
def yX7_ending : MethodName := ⟨RX7, "ending", "(CCII)I"⟩
abbrev cX7_distinct : ByteArray := prog_9_method_47_code
def yX7_distinct : MethodName := ⟨RX7, "distinct", "(CI)I"⟩
abbrev cX7_longest : ByteArray := prog_9_method_48_code
def yX7_longest : MethodName := ⟨RX7, "longest", "(CI)I"⟩
abbrev cX7_occurs : ByteArray := prog_9_method_49_code
def yX7_occurs : MethodName := ⟨RX7, "occurs", "(CII)I"⟩
abbrev cX7_is : ByteArray := prog_9_method_50_code
def yX7_is : MethodName := ⟨RX7, "is", "(CII)Z"⟩
abbrev cX7_isPeriod : ByteArray := prog_9_method_51_code
def yX7_isPeriod : MethodName := ⟨RX7, "isPeriod", "(CII)Z"⟩
abbrev cX7_period : ByteArray := prog_9_method_52_code
def yX7_period : MethodName := ⟨RX7, "period", "(CI)I"⟩
abbrev cX7_root : ByteArray := prog_9_method_53_code
def yX7_root : MethodName := ⟨RX7, "root", "(CI)I"⟩
abbrev cX7_isTurnedLess : ByteArray := prog_9_method_54_code
def yX7_isTurnedLess : MethodName := ⟨RX7, "isTurnedLess", "(CCIII)Z"⟩
abbrev cX7_rotation : ByteArray := prog_9_method_55_code
def yX7_rotation : MethodName := ⟨RX7, "rotation", "(CCI)I"⟩
abbrev cX7_lastOf : ByteArray := prog_9_method_56_code
def yX7_lastOf : MethodName := ⟨RX7, "lastOf", "(CCII)I"⟩
abbrev cX7_words : ByteArray := prog_9_method_57_code
def yX7_words : MethodName := ⟨RX7, "words", "(CCI)I"⟩
abbrev cX7_factors : ByteArray := prog_9_method_58_code
def yX7_factors : MethodName := ⟨RX7, "factors", "(CCI)I"⟩
abbrev cX7_factor : ByteArray := prog_9_method_59_code
def yX7_factor : MethodName := ⟨RX7, "factor", "(CCII)I"⟩
abbrev cX7_share : ByteArray := prog_9_method_60_code
def yX7_share : MethodName := ⟨RX7, "share", "(C)F"⟩
abbrev cX7_mean : ByteArray := prog_9_method_61_code
def yX7_mean : MethodName := ⟨RX7, "mean", "(C)D"⟩
abbrev cX7_checksum : ByteArray := prog_9_method_62_code
def yX7_checksum : MethodName := ⟨RX7, "checksum", "()J"⟩
abbrev cX7_isTrue : ByteArray := prog_9_method_63_code
def yX7_isTrue : MethodName := ⟨RX7, "isTrue", "(CIII)Z"⟩
abbrev cX7_rowIsTrue : ByteArray := prog_9_method_64_code
def yX7_rowIsTrue : MethodName := ⟨RX7, "rowIsTrue", "(CCI)Z"⟩
def RJ9 : String := "java/lang/Math"
def TJ9 : u_T := fun k => match k with
  | _ => ("", "", "", false)
def tyJ9 : Nat → FieldType := fun k => match k with
  | _ => .int
abbrev cJ9_max_7cf53 : ByteArray := prog_14_method_65_code
def yJ9_max_7cf53 : MethodName := ⟨RJ9, "max", "(II)I"⟩
abbrev cJ9_min_7cf53 : ByteArray := prog_14_method_69_code
def yJ9_min_7cf53 : MethodName := ⟨RJ9, "min", "(II)I"⟩
def RL : String := "SpanjudgeLaw"
abbrev cL_append : ByteArray := method_3_code
def yL_append : MethodName := ⟨RL, "append", "(LSpanjudge;CIJ[J)I"⟩
abbrev cL_set : ByteArray := method_4_code
def yL_set : MethodName := ⟨RL, "set", "(LSpanjudge;CIIJ[J)I"⟩
abbrev cL_number : ByteArray := method_5_code
def yL_number : MethodName := ⟨RL, "number", "(LSpanjudge;CII[J)I"⟩
abbrev cL_length : ByteArray := method_6_code
def yL_length : MethodName := ⟨RL, "length", "(LSpanjudge;CI[J)I"⟩
abbrev cL_clear : ByteArray := method_7_code
def yL_clear : MethodName := ⟨RL, "clear", "(LSpanjudge;CI[J)I"⟩
abbrev cL_repeat : ByteArray := method_8_code
def yL_repeat : MethodName := ⟨RL, "repeat", "(LSpanjudge;CII[J)I"⟩
abbrev cL_reverse : ByteArray := method_9_code
def yL_reverse : MethodName := ⟨RL, "reverse", "(LSpanjudge;CI[J)I"⟩
abbrev cL_cut : ByteArray := method_10_code
def yL_cut : MethodName := ⟨RL, "cut", "(LSpanjudge;CIII[J)I"⟩
abbrev cL_convert : ByteArray := method_11_code
def yL_convert : MethodName := ⟨RL, "convert", "(LSpanjudge;CICIC[J)I"⟩
abbrev cL_span : ByteArray := method_12_code
def yL_span : MethodName := ⟨RL, "span", "(LSpanjudge;IIII[J)I"⟩
abbrev cL_tells : ByteArray := method_13_code
def yL_tells : MethodName := ⟨RL, "tells", "(LSpanjudge;IC[J)I"⟩
abbrev cL_fits : ByteArray := method_14_code
def yL_fits : MethodName := ⟨RL, "fits", "(LSpanjudge;CI[J)I"⟩
abbrev cL_asks : ByteArray := method_15_code
def yL_asks : MethodName := ⟨RL, "asks", "(LSpanjudge;CCII[J)I"⟩
abbrev cL_asksRows : ByteArray := method_16_code
def yL_asksRows : MethodName := ⟨RL, "asksRows", "(LSpanjudge;CCII[J)I"⟩
abbrev cL_refused : ByteArray := method_17_code
def yL_refused : MethodName := ⟨RL, "refused", "(LSpanjudge;CCIII[J)I"⟩
abbrev cL_common : ByteArray := method_18_code
def yL_common : MethodName := ⟨RL, "common", "(LSpanjudge;CII[J)I"⟩
abbrev cL_rank : ByteArray := method_19_code
def yL_rank : MethodName := ⟨RL, "rank", "(LSpanjudge;CCI[J)I"⟩
abbrev cL_sort : ByteArray := method_20_code
def yL_sort : MethodName := ⟨RL, "sort", "(LSpanjudge;CC[J)I"⟩
abbrev cL_sorted : ByteArray := method_21_code
def yL_sorted : MethodName := ⟨RL, "sorted", "(LSpanjudge;I[J)I"⟩
abbrev cL_ending : ByteArray := method_22_code
def yL_ending : MethodName := ⟨RL, "ending", "(LSpanjudge;CCII[J)I"⟩
abbrev cL_distinct : ByteArray := method_23_code
def yL_distinct : MethodName := ⟨RL, "distinct", "(LSpanjudge;CI[J)I"⟩
abbrev cL_longest : ByteArray := method_24_code
def yL_longest : MethodName := ⟨RL, "longest", "(LSpanjudge;CI[J)I"⟩
abbrev cL_occurs : ByteArray := method_25_code
def yL_occurs : MethodName := ⟨RL, "occurs", "(LSpanjudge;CII[J)I"⟩
abbrev cL_isPeriod : ByteArray := method_26_code
def yL_isPeriod : MethodName := ⟨RL, "isPeriod", "(LSpanjudge;CII[J)I"⟩
abbrev cL_period : ByteArray := method_27_code
def yL_period : MethodName := ⟨RL, "period", "(LSpanjudge;CI[J)I"⟩
abbrev cL_root : ByteArray := method_28_code
def yL_root : MethodName := ⟨RL, "root", "(LSpanjudge;CI[J)I"⟩
abbrev cL_rotation : ByteArray := method_29_code
def yL_rotation : MethodName := ⟨RL, "rotation", "(LSpanjudge;CCI[J)I"⟩
abbrev cL_factors : ByteArray := method_30_code
def yL_factors : MethodName := ⟨RL, "factors", "(LSpanjudge;CCI[J)I"⟩
abbrev cL_factor : ByteArray := method_31_code
def yL_factor : MethodName := ⟨RL, "factor", "(LSpanjudge;CCII[J)I"⟩
abbrev cL_share : ByteArray := method_32_code
def yL_share : MethodName := ⟨RL, "share", "(LSpanjudge;C[D)I"⟩
abbrev cL_mean : ByteArray := method_33_code
def yL_mean : MethodName := ⟨RL, "mean", "(LSpanjudge;C[D)I"⟩
abbrev cL_isTrue : ByteArray := method_34_code
def yL_isTrue : MethodName := ⟨RL, "isTrue", "(LSpanjudge;CIII[J)I"⟩
abbrev cL_rowIsTrue : ByteArray := method_35_code
def yL_rowIsTrue : MethodName := ⟨RL, "rowIsTrue", "(LSpanjudge;CCI[J)I"⟩
abbrev cL_law : ByteArray := code
def yL_law : MethodName := ⟨RL, "law", "([I)Z"⟩
abbrev vwCl : List vw_C := [(RX0, TX0, 8), (RX1, TX1, 2), (RX3, TX3, 3), (RX4, TX4, 3), (RX6, TX6, 5), (RX7, TX7, 8)]
end
section
theorem dX0_init_0 : decode cX0_init 0 = .ok (.aload_n 0, 1) := by decide +kernel
theorem dX0_init_1 : decode cX0_init 1 = .ok (.invokespecial 3, 3) := by decide +kernel
theorem dX0_init_4 : decode cX0_init 4 = .ok (.aload_n 0, 1) := by decide +kernel
theorem dX0_init_5 : decode cX0_init 5 = .ok (.bipush 33, 2) := by decide +kernel
theorem dX0_init_7 : decode cX0_init 7 = .ok (.bipush 33, 2) := by decide +kernel
theorem dX0_init_9 : decode cX0_init 9 = .ok (.multianewarray 9 2, 4) := by decide +kernel
theorem dX0_init_13 : decode cX0_init 13 = .ok (.putfield 11, 3) := by decide +kernel
theorem dX0_init_16 : decode cX0_init 16 = .ok (.aload_n 0, 1) := by decide +kernel
theorem dX0_init_17 : decode cX0_init 17 = .ok (.bipush 33, 2) := by decide +kernel
theorem dX0_init_19 : decode cX0_init 19 = .ok (.bipush 33, 2) := by decide +kernel
theorem dX0_init_21 : decode cX0_init 21 = .ok (.multianewarray 9 2, 4) := by decide +kernel
theorem dX0_init_25 : decode cX0_init 25 = .ok (.putfield 16, 3) := by decide +kernel
theorem dX0_init_28 : decode cX0_init 28 = .ok (.aload_n 0, 1) := by decide +kernel
theorem dX0_init_29 : decode cX0_init 29 = .ok (.bipush 32, 2) := by decide +kernel
theorem dX0_init_31 : decode cX0_init 31 = .ok (.newarray .int, 2) := by decide +kernel
theorem dX0_init_33 : decode cX0_init 33 = .ok (.putfield 19, 3) := by decide +kernel
theorem dX0_init_36 : decode cX0_init 36 = .ok (.aload_n 0, 1) := by decide +kernel
theorem dX0_init_37 : decode cX0_init 37 = .ok (.bipush 32, 2) := by decide +kernel
theorem dX0_init_39 : decode cX0_init 39 = .ok (.newarray .int, 2) := by decide +kernel
theorem dX0_init_41 : decode cX0_init 41 = .ok (.putfield 23, 3) := by decide +kernel
theorem dX0_init_44 : decode cX0_init 44 = .ok (.aload_n 0, 1) := by decide +kernel
theorem dX0_init_45 : decode cX0_init 45 = .ok (.bipush 32, 2) := by decide +kernel
theorem dX0_init_47 : decode cX0_init 47 = .ok (.newarray .long, 2) := by decide +kernel
theorem dX0_init_49 : decode cX0_init 49 = .ok (.putfield 26, 3) := by decide +kernel
theorem dX0_init_52 : decode cX0_init 52 = .ok (.return_, 1) := by decide +kernel
theorem dX0_take_0 : decode cX0_take 0 = .ok (.aload_n 0, 1) := by decide +kernel
theorem dX0_take_1 : decode cX0_take 1 = .ok (.aload_n 1, 1) := by decide +kernel
theorem dX0_take_2 : decode cX0_take 2 = .ok (.getfield 30, 3) := by decide +kernel
theorem dX0_take_5 : decode cX0_take 5 = .ok (.putfield 26, 3) := by decide +kernel
theorem dX0_take_8 : decode cX0_take 8 = .ok (.aload_n 0, 1) := by decide +kernel
theorem dX0_take_9 : decode cX0_take 9 = .ok (.aload_n 1, 1) := by decide +kernel
theorem dX0_take_10 : decode cX0_take 10 = .ok (.getfield 33, 3) := by decide +kernel
theorem dX0_take_13 : decode cX0_take 13 = .ok (.putfield 37, 3) := by decide +kernel
theorem dX0_take_16 : decode cX0_take 16 = .ok (.aload_n 0, 1) := by decide +kernel
theorem dX0_take_17 : decode cX0_take 17 = .ok (.iload_n 2, 1) := by decide +kernel
theorem dX0_take_18 : decode cX0_take 18 = .ok (.putfield 38, 3) := by decide +kernel
theorem dX0_take_21 : decode cX0_take 21 = .ok (.iconst 0, 1) := by decide +kernel
theorem dX0_take_22 : decode cX0_take 22 = .ok (.istore_n 3, 1) := by decide +kernel
theorem dX0_take_23 : decode cX0_take 23 = .ok (.iload_n 3, 1) := by decide +kernel
theorem dX0_take_24 : decode cX0_take 24 = .ok (.aload_n 0, 1) := by decide +kernel
theorem dX0_take_25 : decode cX0_take 25 = .ok (.getfield 37, 3) := by decide +kernel
theorem dX0_take_28 : decode cX0_take 28 = .ok (.if_icmp .gt 33, 3) := by decide +kernel
theorem dX0_take_31 : decode cX0_take 31 = .ok (.aload_n 0, 1) := by decide +kernel
theorem dX0_take_32 : decode cX0_take 32 = .ok (.getfield 11, 3) := by decide +kernel
theorem dX0_take_35 : decode cX0_take 35 = .ok (.iload_n 3, 1) := by decide +kernel
theorem dX0_take_36 : decode cX0_take 36 = .ok (.aaload, 1) := by decide +kernel
theorem dX0_take_37 : decode cX0_take 37 = .ok (.aload_n 0, 1) := by decide +kernel
theorem dX0_take_38 : decode cX0_take 38 = .ok (.getfield 37, 3) := by decide +kernel
theorem dX0_take_41 : decode cX0_take 41 = .ok (.iconst 0, 1) := by decide +kernel
theorem dX0_take_42 : decode cX0_take 42 = .ok (.iastore, 1) := by decide +kernel
theorem dX0_take_43 : decode cX0_take 43 = .ok (.aload_n 0, 1) := by decide +kernel
theorem dX0_take_44 : decode cX0_take 44 = .ok (.getfield 11, 3) := by decide +kernel
theorem dX0_take_47 : decode cX0_take 47 = .ok (.aload_n 0, 1) := by decide +kernel
theorem dX0_take_48 : decode cX0_take 48 = .ok (.getfield 37, 3) := by decide +kernel
theorem dX0_take_51 : decode cX0_take 51 = .ok (.aaload, 1) := by decide +kernel
theorem dX0_take_52 : decode cX0_take 52 = .ok (.iload_n 3, 1) := by decide +kernel
theorem dX0_take_53 : decode cX0_take 53 = .ok (.iconst 0, 1) := by decide +kernel
theorem dX0_take_54 : decode cX0_take 54 = .ok (.iastore, 1) := by decide +kernel
theorem dX0_take_55 : decode cX0_take 55 = .ok (.iinc 3 1, 3) := by decide +kernel
theorem dX0_take_58 : decode cX0_take 58 = .ok (.goto (-35), 3) := by decide +kernel
theorem dX0_take_61 : decode cX0_take 61 = .ok (.aload_n 0, 1) := by decide +kernel
theorem dX0_take_62 : decode cX0_take 62 = .ok (.getfield 37, 3) := by decide +kernel
theorem dX0_take_65 : decode cX0_take 65 = .ok (.iconst 1, 1) := by decide +kernel
theorem dX0_take_66 : decode cX0_take 66 = .ok (.isub, 1) := by decide +kernel
theorem dX0_take_67 : decode cX0_take 67 = .ok (.istore_n 3, 1) := by decide +kernel
theorem dX0_take_68 : decode cX0_take 68 = .ok (.iload_n 3, 1) := by decide +kernel
theorem dX0_take_69 : decode cX0_take 69 = .ok (.ifCond .lt 85, 3) := by decide +kernel
theorem dX0_take_72 : decode cX0_take 72 = .ok (.aload_n 0, 1) := by decide +kernel
theorem dX0_take_73 : decode cX0_take 73 = .ok (.getfield 37, 3) := by decide +kernel
theorem dX0_take_76 : decode cX0_take 76 = .ok (.iconst 1, 1) := by decide +kernel
theorem dX0_take_77 : decode cX0_take 77 = .ok (.isub, 1) := by decide +kernel
theorem dX0_take_78 : decode cX0_take 78 = .ok (.istore 4, 2) := by decide +kernel
theorem dX0_take_80 : decode cX0_take 80 = .ok (.iload 4, 2) := by decide +kernel
theorem dX0_take_82 : decode cX0_take 82 = .ok (.ifCond .lt 66, 3) := by decide +kernel
theorem dX0_take_85 : decode cX0_take 85 = .ok (.aload_n 0, 1) := by decide +kernel
theorem dX0_take_86 : decode cX0_take 86 = .ok (.getfield 26, 3) := by decide +kernel
theorem dX0_take_89 : decode cX0_take 89 = .ok (.iload_n 3, 1) := by decide +kernel
theorem dX0_take_90 : decode cX0_take 90 = .ok (.laload, 1) := by decide +kernel
theorem dX0_take_91 : decode cX0_take 91 = .ok (.aload_n 0, 1) := by decide +kernel
theorem dX0_take_92 : decode cX0_take 92 = .ok (.getfield 26, 3) := by decide +kernel
theorem dX0_take_95 : decode cX0_take 95 = .ok (.iload 4, 2) := by decide +kernel
theorem dX0_take_97 : decode cX0_take 97 = .ok (.laload, 1) := by decide +kernel
theorem dX0_take_98 : decode cX0_take 98 = .ok (.lcmp, 1) := by decide +kernel
theorem dX0_take_99 : decode cX0_take 99 = .ok (.ifCond .ne 7, 3) := by decide +kernel
theorem dX0_take_102 : decode cX0_take 102 = .ok (.iconst 1, 1) := by decide +kernel
theorem dX0_take_103 : decode cX0_take 103 = .ok (.goto 4, 3) := by decide +kernel
theorem dX0_take_106 : decode cX0_take 106 = .ok (.iconst 0, 1) := by decide +kernel
theorem dX0_take_107 : decode cX0_take 107 = .ok (.istore 5, 2) := by decide +kernel
theorem dX0_take_109 : decode cX0_take 109 = .ok (.aload_n 0, 1) := by decide +kernel
theorem dX0_take_110 : decode cX0_take 110 = .ok (.getfield 11, 3) := by decide +kernel
theorem dX0_take_113 : decode cX0_take 113 = .ok (.iload_n 3, 1) := by decide +kernel
theorem dX0_take_114 : decode cX0_take 114 = .ok (.aaload, 1) := by decide +kernel
theorem dX0_take_115 : decode cX0_take 115 = .ok (.iload 4, 2) := by decide +kernel
theorem dX0_take_117 : decode cX0_take 117 = .ok (.iload 5, 2) := by decide +kernel
theorem dX0_take_119 : decode cX0_take 119 = .ok (.ifCond .eq 21, 3) := by decide +kernel
theorem dX0_take_122 : decode cX0_take 122 = .ok (.aload_n 0, 1) := by decide +kernel
theorem dX0_take_123 : decode cX0_take 123 = .ok (.getfield 11, 3) := by decide +kernel
theorem dX0_take_126 : decode cX0_take 126 = .ok (.iload_n 3, 1) := by decide +kernel
theorem dX0_take_127 : decode cX0_take 127 = .ok (.iconst 1, 1) := by decide +kernel
theorem dX0_take_128 : decode cX0_take 128 = .ok (.iadd, 1) := by decide +kernel
theorem dX0_take_129 : decode cX0_take 129 = .ok (.aaload, 1) := by decide +kernel
theorem dX0_take_130 : decode cX0_take 130 = .ok (.iload 4, 2) := by decide +kernel
theorem dX0_take_132 : decode cX0_take 132 = .ok (.iconst 1, 1) := by decide +kernel
theorem dX0_take_133 : decode cX0_take 133 = .ok (.iadd, 1) := by decide +kernel
theorem dX0_take_134 : decode cX0_take 134 = .ok (.iaload, 1) := by decide +kernel
theorem dX0_take_135 : decode cX0_take 135 = .ok (.iconst 1, 1) := by decide +kernel
theorem dX0_take_136 : decode cX0_take 136 = .ok (.iadd, 1) := by decide +kernel
theorem dX0_take_137 : decode cX0_take 137 = .ok (.goto 4, 3) := by decide +kernel
theorem dX0_take_140 : decode cX0_take 140 = .ok (.iconst 0, 1) := by decide +kernel
theorem dX0_take_141 : decode cX0_take 141 = .ok (.iastore, 1) := by decide +kernel
theorem dX0_take_142 : decode cX0_take 142 = .ok (.iinc 4 (-1), 3) := by decide +kernel
theorem dX0_take_145 : decode cX0_take 145 = .ok (.goto (-65), 3) := by decide +kernel
theorem dX0_take_148 : decode cX0_take 148 = .ok (.iinc 3 (-1), 3) := by decide +kernel
theorem dX0_take_151 : decode cX0_take 151 = .ok (.goto (-83), 3) := by decide +kernel
theorem dX0_take_154 : decode cX0_take 154 = .ok (.return_, 1) := by decide +kernel
theorem dX0_compareParts_0 : decode cX0_compareParts 0 = .ok (.iload_n 2, 1) := by decide +kernel
theorem dX0_compareParts_1 : decode cX0_compareParts 1 = .ok (.iload_n 1, 1) := by decide +kernel
theorem dX0_compareParts_2 : decode cX0_compareParts 2 = .ok (.isub, 1) := by decide +kernel
theorem dX0_compareParts_3 : decode cX0_compareParts 3 = .ok (.istore 5, 2) := by decide +kernel
theorem dX0_compareParts_5 : decode cX0_compareParts 5 = .ok (.iload 4, 2) := by decide +kernel
theorem dX0_compareParts_7 : decode cX0_compareParts 7 = .ok (.iload_n 3, 1) := by decide +kernel
theorem dX0_compareParts_8 : decode cX0_compareParts 8 = .ok (.isub, 1) := by decide +kernel
theorem dX0_compareParts_9 : decode cX0_compareParts 9 = .ok (.istore 6, 2) := by decide +kernel
theorem dX0_compareParts_11 : decode cX0_compareParts 11 = .ok (.aload_n 0, 1) := by decide +kernel
theorem dX0_compareParts_12 : decode cX0_compareParts 12 = .ok (.getfield 11, 3) := by decide +kernel
theorem dX0_compareParts_15 : decode cX0_compareParts 15 = .ok (.iload_n 1, 1) := by decide +kernel
theorem dX0_compareParts_16 : decode cX0_compareParts 16 = .ok (.aaload, 1) := by decide +kernel
theorem dX0_compareParts_17 : decode cX0_compareParts 17 = .ok (.iload_n 3, 1) := by decide +kernel
theorem dX0_compareParts_18 : decode cX0_compareParts 18 = .ok (.iaload, 1) := by decide +kernel
theorem dX0_compareParts_19 : decode cX0_compareParts 19 = .ok (.istore 7, 2) := by decide +kernel
theorem dX0_compareParts_21 : decode cX0_compareParts 21 = .ok (.iload 7, 2) := by decide +kernel
theorem dX0_compareParts_23 : decode cX0_compareParts 23 = .ok (.iload 5, 2) := by decide +kernel
theorem dX0_compareParts_25 : decode cX0_compareParts 25 = .ok (.if_icmp .ge 36, 3) := by decide +kernel
theorem dX0_compareParts_28 : decode cX0_compareParts 28 = .ok (.iload 7, 2) := by decide +kernel
theorem dX0_compareParts_30 : decode cX0_compareParts 30 = .ok (.iload 6, 2) := by decide +kernel
theorem dX0_compareParts_32 : decode cX0_compareParts 32 = .ok (.if_icmp .ge 29, 3) := by decide +kernel
theorem dX0_compareParts_35 : decode cX0_compareParts 35 = .ok (.aload_n 0, 1) := by decide +kernel
theorem dX0_compareParts_36 : decode cX0_compareParts 36 = .ok (.getfield 26, 3) := by decide +kernel
theorem dX0_compareParts_39 : decode cX0_compareParts 39 = .ok (.iload_n 1, 1) := by decide +kernel
theorem dX0_compareParts_40 : decode cX0_compareParts 40 = .ok (.iload 7, 2) := by decide +kernel
theorem dX0_compareParts_42 : decode cX0_compareParts 42 = .ok (.iadd, 1) := by decide +kernel
theorem dX0_compareParts_43 : decode cX0_compareParts 43 = .ok (.laload, 1) := by decide +kernel
theorem dX0_compareParts_44 : decode cX0_compareParts 44 = .ok (.aload_n 0, 1) := by decide +kernel
theorem dX0_compareParts_45 : decode cX0_compareParts 45 = .ok (.getfield 26, 3) := by decide +kernel
theorem dX0_compareParts_48 : decode cX0_compareParts 48 = .ok (.iload_n 3, 1) := by decide +kernel
theorem dX0_compareParts_49 : decode cX0_compareParts 49 = .ok (.iload 7, 2) := by decide +kernel
theorem dX0_compareParts_51 : decode cX0_compareParts 51 = .ok (.iadd, 1) := by decide +kernel
theorem dX0_compareParts_52 : decode cX0_compareParts 52 = .ok (.laload, 1) := by decide +kernel
theorem dX0_compareParts_53 : decode cX0_compareParts 53 = .ok (.aload_n 0, 1) := by decide +kernel
theorem dX0_compareParts_54 : decode cX0_compareParts 54 = .ok (.getfield 38, 3) := by decide +kernel
theorem dX0_compareParts_57 : decode cX0_compareParts 57 = .ok (.invokestatic 42, 3) := by decide +kernel
theorem dX0_compareParts_60 : decode cX0_compareParts 60 = .ok (.ireturn, 1) := by decide +kernel
theorem dX0_compareParts_61 : decode cX0_compareParts 61 = .ok (.iload 5, 2) := by decide +kernel
theorem dX0_compareParts_63 : decode cX0_compareParts 63 = .ok (.i2l, 1) := by decide +kernel
theorem dX0_compareParts_64 : decode cX0_compareParts 64 = .ok (.iload 6, 2) := by decide +kernel
theorem dX0_compareParts_66 : decode cX0_compareParts 66 = .ok (.i2l, 1) := by decide +kernel
theorem dX0_compareParts_67 : decode cX0_compareParts 67 = .ok (.iconst 0, 1) := by decide +kernel
theorem dX0_compareParts_68 : decode cX0_compareParts 68 = .ok (.invokestatic 42, 3) := by decide +kernel
theorem dX0_compareParts_71 : decode cX0_compareParts 71 = .ok (.ireturn, 1) := by decide +kernel
theorem dX0_putInOrder_0 : decode cX0_putInOrder 0 = .ok (.iconst 0, 1) := by decide +kernel
theorem dX0_putInOrder_1 : decode cX0_putInOrder 1 = .ok (.istore_n 1, 1) := by decide +kernel
theorem dX0_putInOrder_2 : decode cX0_putInOrder 2 = .ok (.iload_n 1, 1) := by decide +kernel
theorem dX0_putInOrder_3 : decode cX0_putInOrder 3 = .ok (.aload_n 0, 1) := by decide +kernel
theorem dX0_putInOrder_4 : decode cX0_putInOrder 4 = .ok (.getfield 37, 3) := by decide +kernel
theorem dX0_putInOrder_7 : decode cX0_putInOrder 7 = .ok (.if_icmp .ge 66, 3) := by decide +kernel
theorem dX0_putInOrder_10 : decode cX0_putInOrder 10 = .ok (.iload_n 1, 1) := by decide +kernel
theorem dX0_putInOrder_11 : decode cX0_putInOrder 11 = .ok (.istore_n 2, 1) := by decide +kernel
theorem dX0_putInOrder_12 : decode cX0_putInOrder 12 = .ok (.iload_n 2, 1) := by decide +kernel
theorem dX0_putInOrder_13 : decode cX0_putInOrder 13 = .ok (.ifCond .le 47, 3) := by decide +kernel
theorem dX0_putInOrder_16 : decode cX0_putInOrder 16 = .ok (.aload_n 0, 1) := by decide +kernel
theorem dX0_putInOrder_17 : decode cX0_putInOrder 17 = .ok (.aload_n 0, 1) := by decide +kernel
theorem dX0_putInOrder_18 : decode cX0_putInOrder 18 = .ok (.getfield 19, 3) := by decide +kernel
theorem dX0_putInOrder_21 : decode cX0_putInOrder 21 = .ok (.iload_n 2, 1) := by decide +kernel
theorem dX0_putInOrder_22 : decode cX0_putInOrder 22 = .ok (.iconst 1, 1) := by decide +kernel
theorem dX0_putInOrder_23 : decode cX0_putInOrder 23 = .ok (.isub, 1) := by decide +kernel
theorem dX0_putInOrder_24 : decode cX0_putInOrder 24 = .ok (.iaload, 1) := by decide +kernel
theorem dX0_putInOrder_25 : decode cX0_putInOrder 25 = .ok (.aload_n 0, 1) := by decide +kernel
theorem dX0_putInOrder_26 : decode cX0_putInOrder 26 = .ok (.getfield 37, 3) := by decide +kernel
theorem dX0_putInOrder_29 : decode cX0_putInOrder 29 = .ok (.iload_n 1, 1) := by decide +kernel
theorem dX0_putInOrder_30 : decode cX0_putInOrder 30 = .ok (.aload_n 0, 1) := by decide +kernel
theorem dX0_putInOrder_31 : decode cX0_putInOrder 31 = .ok (.getfield 37, 3) := by decide +kernel
theorem dX0_putInOrder_34 : decode cX0_putInOrder 34 = .ok (.invokevirtual 46, 3) := by decide +kernel
theorem dX0_putInOrder_37 : decode cX0_putInOrder 37 = .ok (.ifCond .le 23, 3) := by decide +kernel
theorem dX0_putInOrder_40 : decode cX0_putInOrder 40 = .ok (.aload_n 0, 1) := by decide +kernel
theorem dX0_putInOrder_41 : decode cX0_putInOrder 41 = .ok (.getfield 19, 3) := by decide +kernel
theorem dX0_putInOrder_44 : decode cX0_putInOrder 44 = .ok (.iload_n 2, 1) := by decide +kernel
theorem dX0_putInOrder_45 : decode cX0_putInOrder 45 = .ok (.aload_n 0, 1) := by decide +kernel
theorem dX0_putInOrder_46 : decode cX0_putInOrder 46 = .ok (.getfield 19, 3) := by decide +kernel
theorem dX0_putInOrder_49 : decode cX0_putInOrder 49 = .ok (.iload_n 2, 1) := by decide +kernel
theorem dX0_putInOrder_50 : decode cX0_putInOrder 50 = .ok (.iconst 1, 1) := by decide +kernel
theorem dX0_putInOrder_51 : decode cX0_putInOrder 51 = .ok (.isub, 1) := by decide +kernel
theorem dX0_putInOrder_52 : decode cX0_putInOrder 52 = .ok (.iaload, 1) := by decide +kernel
theorem dX0_putInOrder_53 : decode cX0_putInOrder 53 = .ok (.iastore, 1) := by decide +kernel
theorem dX0_putInOrder_54 : decode cX0_putInOrder 54 = .ok (.iinc 2 (-1), 3) := by decide +kernel
theorem dX0_putInOrder_57 : decode cX0_putInOrder 57 = .ok (.goto (-45), 3) := by decide +kernel
theorem dX0_putInOrder_60 : decode cX0_putInOrder 60 = .ok (.aload_n 0, 1) := by decide +kernel
theorem dX0_putInOrder_61 : decode cX0_putInOrder 61 = .ok (.getfield 19, 3) := by decide +kernel
theorem dX0_putInOrder_64 : decode cX0_putInOrder 64 = .ok (.iload_n 2, 1) := by decide +kernel
theorem dX0_putInOrder_65 : decode cX0_putInOrder 65 = .ok (.iload_n 1, 1) := by decide +kernel
theorem dX0_putInOrder_66 : decode cX0_putInOrder 66 = .ok (.iastore, 1) := by decide +kernel
theorem dX0_putInOrder_67 : decode cX0_putInOrder 67 = .ok (.iinc 1 1, 3) := by decide +kernel
theorem dX0_putInOrder_70 : decode cX0_putInOrder 70 = .ok (.goto (-68), 3) := by decide +kernel
theorem dX0_putInOrder_73 : decode cX0_putInOrder 73 = .ok (.return_, 1) := by decide +kernel
theorem dX0_countWords_0 : decode cX0_countWords 0 = .ok (.iconst 0, 1) := by decide +kernel
theorem dX0_countWords_1 : decode cX0_countWords 1 = .ok (.istore_n 1, 1) := by decide +kernel
theorem dX0_countWords_2 : decode cX0_countWords 2 = .ok (.iconst 0, 1) := by decide +kernel
theorem dX0_countWords_3 : decode cX0_countWords 3 = .ok (.istore_n 2, 1) := by decide +kernel
theorem dX0_countWords_4 : decode cX0_countWords 4 = .ok (.iload_n 2, 1) := by decide +kernel
theorem dX0_countWords_5 : decode cX0_countWords 5 = .ok (.aload_n 0, 1) := by decide +kernel
theorem dX0_countWords_6 : decode cX0_countWords 6 = .ok (.getfield 37, 3) := by decide +kernel
theorem dX0_countWords_9 : decode cX0_countWords 9 = .ok (.if_icmp .ge 24, 3) := by decide +kernel
theorem dX0_countWords_12 : decode cX0_countWords 12 = .ok (.iload_n 1, 1) := by decide +kernel
theorem dX0_countWords_13 : decode cX0_countWords 13 = .ok (.aload_n 0, 1) := by decide +kernel
theorem dX0_countWords_14 : decode cX0_countWords 14 = .ok (.getfield 37, 3) := by decide +kernel
theorem dX0_countWords_17 : decode cX0_countWords 17 = .ok (.iload_n 2, 1) := by decide +kernel
theorem dX0_countWords_18 : decode cX0_countWords 18 = .ok (.isub, 1) := by decide +kernel
theorem dX0_countWords_19 : decode cX0_countWords 19 = .ok (.aload_n 0, 1) := by decide +kernel
theorem dX0_countWords_20 : decode cX0_countWords 20 = .ok (.iload_n 2, 1) := by decide +kernel
theorem dX0_countWords_21 : decode cX0_countWords 21 = .ok (.invokevirtual 50, 3) := by decide +kernel
theorem dX0_countWords_24 : decode cX0_countWords 24 = .ok (.isub, 1) := by decide +kernel
theorem dX0_countWords_25 : decode cX0_countWords 25 = .ok (.iadd, 1) := by decide +kernel
theorem dX0_countWords_26 : decode cX0_countWords 26 = .ok (.istore_n 1, 1) := by decide +kernel
theorem dX0_countWords_27 : decode cX0_countWords 27 = .ok (.iinc 2 1, 3) := by decide +kernel
theorem dX0_countWords_30 : decode cX0_countWords 30 = .ok (.goto (-26), 3) := by decide +kernel
theorem dX0_countWords_33 : decode cX0_countWords 33 = .ok (.iload_n 1, 1) := by decide +kernel
theorem dX0_countWords_34 : decode cX0_countWords 34 = .ok (.ireturn, 1) := by decide +kernel
theorem dX0_longestTwice_0 : decode cX0_longestTwice 0 = .ok (.iconst 0, 1) := by decide +kernel
theorem dX0_longestTwice_1 : decode cX0_longestTwice 1 = .ok (.istore_n 1, 1) := by decide +kernel
theorem dX0_longestTwice_2 : decode cX0_longestTwice 2 = .ok (.iconst 0, 1) := by decide +kernel
theorem dX0_longestTwice_3 : decode cX0_longestTwice 3 = .ok (.istore_n 2, 1) := by decide +kernel
theorem dX0_longestTwice_4 : decode cX0_longestTwice 4 = .ok (.iload_n 2, 1) := by decide +kernel
theorem dX0_longestTwice_5 : decode cX0_longestTwice 5 = .ok (.aload_n 0, 1) := by decide +kernel
theorem dX0_longestTwice_6 : decode cX0_longestTwice 6 = .ok (.getfield 37, 3) := by decide +kernel
theorem dX0_longestTwice_9 : decode cX0_longestTwice 9 = .ok (.if_icmp .ge 19, 3) := by decide +kernel
theorem dX0_longestTwice_12 : decode cX0_longestTwice 12 = .ok (.iload_n 1, 1) := by decide +kernel
theorem dX0_longestTwice_13 : decode cX0_longestTwice 13 = .ok (.aload_n 0, 1) := by decide +kernel
theorem dX0_longestTwice_14 : decode cX0_longestTwice 14 = .ok (.iload_n 2, 1) := by decide +kernel
theorem dX0_longestTwice_15 : decode cX0_longestTwice 15 = .ok (.invokevirtual 50, 3) := by decide +kernel
theorem dX0_longestTwice_18 : decode cX0_longestTwice 18 = .ok (.invokestatic 54, 3) := by decide +kernel
theorem dX0_longestTwice_21 : decode cX0_longestTwice 21 = .ok (.istore_n 1, 1) := by decide +kernel
theorem dX0_longestTwice_22 : decode cX0_longestTwice 22 = .ok (.iinc 2 1, 3) := by decide +kernel
theorem dX0_longestTwice_25 : decode cX0_longestTwice 25 = .ok (.goto (-21), 3) := by decide +kernel
theorem dX0_longestTwice_28 : decode cX0_longestTwice 28 = .ok (.iload_n 1, 1) := by decide +kernel
theorem dX0_longestTwice_29 : decode cX0_longestTwice 29 = .ok (.ireturn, 1) := by decide +kernel
theorem dX0_mostAlikeAhead_0 : decode cX0_mostAlikeAhead 0 = .ok (.iconst 0, 1) := by decide +kernel
theorem dX0_mostAlikeAhead_1 : decode cX0_mostAlikeAhead 1 = .ok (.istore_n 2, 1) := by decide +kernel
theorem dX0_mostAlikeAhead_2 : decode cX0_mostAlikeAhead 2 = .ok (.iconst 0, 1) := by decide +kernel
theorem dX0_mostAlikeAhead_3 : decode cX0_mostAlikeAhead 3 = .ok (.istore_n 3, 1) := by decide +kernel
theorem dX0_mostAlikeAhead_4 : decode cX0_mostAlikeAhead 4 = .ok (.iload_n 3, 1) := by decide +kernel
theorem dX0_mostAlikeAhead_5 : decode cX0_mostAlikeAhead 5 = .ok (.iload_n 1, 1) := by decide +kernel
theorem dX0_mostAlikeAhead_6 : decode cX0_mostAlikeAhead 6 = .ok (.if_icmp .ge 22, 3) := by decide +kernel
theorem dX0_mostAlikeAhead_9 : decode cX0_mostAlikeAhead 9 = .ok (.iload_n 2, 1) := by decide +kernel
theorem dX0_mostAlikeAhead_10 : decode cX0_mostAlikeAhead 10 = .ok (.aload_n 0, 1) := by decide +kernel
theorem dX0_mostAlikeAhead_11 : decode cX0_mostAlikeAhead 11 = .ok (.getfield 11, 3) := by decide +kernel
theorem dX0_mostAlikeAhead_14 : decode cX0_mostAlikeAhead 14 = .ok (.iload_n 3, 1) := by decide +kernel
theorem dX0_mostAlikeAhead_15 : decode cX0_mostAlikeAhead 15 = .ok (.aaload, 1) := by decide +kernel
theorem dX0_mostAlikeAhead_16 : decode cX0_mostAlikeAhead 16 = .ok (.iload_n 1, 1) := by decide +kernel
theorem dX0_mostAlikeAhead_17 : decode cX0_mostAlikeAhead 17 = .ok (.iaload, 1) := by decide +kernel
theorem dX0_mostAlikeAhead_18 : decode cX0_mostAlikeAhead 18 = .ok (.invokestatic 54, 3) := by decide +kernel
theorem dX0_mostAlikeAhead_21 : decode cX0_mostAlikeAhead 21 = .ok (.istore_n 2, 1) := by decide +kernel
theorem dX0_mostAlikeAhead_22 : decode cX0_mostAlikeAhead 22 = .ok (.iinc 3 1, 3) := by decide +kernel
theorem dX0_mostAlikeAhead_25 : decode cX0_mostAlikeAhead 25 = .ok (.goto (-21), 3) := by decide +kernel
theorem dX0_mostAlikeAhead_28 : decode cX0_mostAlikeAhead 28 = .ok (.iload_n 2, 1) := by decide +kernel
theorem dX0_mostAlikeAhead_29 : decode cX0_mostAlikeAhead 29 = .ok (.ireturn, 1) := by decide +kernel
theorem dX0_split_0 : decode cX0_split 0 = .ok (.aload_n 0, 1) := by decide +kernel
theorem dX0_split_1 : decode cX0_split 1 = .ok (.iconst 0, 1) := by decide +kernel
theorem dX0_split_2 : decode cX0_split 2 = .ok (.putfield 60, 3) := by decide +kernel
theorem dX0_split_5 : decode cX0_split 5 = .ok (.iconst 0, 1) := by decide +kernel
theorem dX0_split_6 : decode cX0_split 6 = .ok (.istore_n 1, 1) := by decide +kernel
theorem dX0_split_7 : decode cX0_split 7 = .ok (.iconst 0, 1) := by decide +kernel
theorem dX0_split_8 : decode cX0_split 8 = .ok (.istore_n 2, 1) := by decide +kernel
theorem dX0_split_9 : decode cX0_split 9 = .ok (.iload_n 2, 1) := by decide +kernel
theorem dX0_split_10 : decode cX0_split 10 = .ok (.aload_n 0, 1) := by decide +kernel
theorem dX0_split_11 : decode cX0_split 11 = .ok (.getfield 37, 3) := by decide +kernel
theorem dX0_split_14 : decode cX0_split 14 = .ok (.if_icmp .ge 52, 3) := by decide +kernel
theorem dX0_split_17 : decode cX0_split 17 = .ok (.iload_n 2, 1) := by decide +kernel
theorem dX0_split_18 : decode cX0_split 18 = .ok (.ifCond .eq 20, 3) := by decide +kernel
theorem dX0_split_21 : decode cX0_split 21 = .ok (.aload_n 0, 1) := by decide +kernel
theorem dX0_split_22 : decode cX0_split 22 = .ok (.iload_n 2, 1) := by decide +kernel
theorem dX0_split_23 : decode cX0_split 23 = .ok (.aload_n 0, 1) := by decide +kernel
theorem dX0_split_24 : decode cX0_split 24 = .ok (.getfield 37, 3) := by decide +kernel
theorem dX0_split_27 : decode cX0_split 27 = .ok (.iload_n 1, 1) := by decide +kernel
theorem dX0_split_28 : decode cX0_split 28 = .ok (.aload_n 0, 1) := by decide +kernel
theorem dX0_split_29 : decode cX0_split 29 = .ok (.getfield 37, 3) := by decide +kernel
theorem dX0_split_32 : decode cX0_split 32 = .ok (.invokevirtual 46, 3) := by decide +kernel
theorem dX0_split_35 : decode cX0_split 35 = .ok (.ifCond .ge 25, 3) := by decide +kernel
theorem dX0_split_38 : decode cX0_split 38 = .ok (.iload_n 2, 1) := by decide +kernel
theorem dX0_split_39 : decode cX0_split 39 = .ok (.istore_n 1, 1) := by decide +kernel
theorem dX0_split_40 : decode cX0_split 40 = .ok (.aload_n 0, 1) := by decide +kernel
theorem dX0_split_41 : decode cX0_split 41 = .ok (.getfield 23, 3) := by decide +kernel
theorem dX0_split_44 : decode cX0_split 44 = .ok (.aload_n 0, 1) := by decide +kernel
theorem dX0_split_45 : decode cX0_split 45 = .ok (.getfield 60, 3) := by decide +kernel
theorem dX0_split_48 : decode cX0_split 48 = .ok (.iload_n 2, 1) := by decide +kernel
theorem dX0_split_49 : decode cX0_split 49 = .ok (.iastore, 1) := by decide +kernel
theorem dX0_split_50 : decode cX0_split 50 = .ok (.aload_n 0, 1) := by decide +kernel
theorem dX0_split_51 : decode cX0_split 51 = .ok (.dup, 1) := by decide +kernel
theorem dX0_split_52 : decode cX0_split 52 = .ok (.getfield 60, 3) := by decide +kernel
theorem dX0_split_55 : decode cX0_split 55 = .ok (.iconst 1, 1) := by decide +kernel
theorem dX0_split_56 : decode cX0_split 56 = .ok (.iadd, 1) := by decide +kernel
theorem dX0_split_57 : decode cX0_split 57 = .ok (.putfield 60, 3) := by decide +kernel
theorem dX0_split_60 : decode cX0_split 60 = .ok (.iinc 2 1, 3) := by decide +kernel
theorem dX0_split_63 : decode cX0_split 63 = .ok (.goto (-54), 3) := by decide +kernel
theorem dX0_split_66 : decode cX0_split 66 = .ok (.return_, 1) := by decide +kernel
theorem dX0_factorEnd_0 : decode cX0_factorEnd 0 = .ok (.iload_n 1, 1) := by decide +kernel
theorem dX0_factorEnd_1 : decode cX0_factorEnd 1 = .ok (.iconst 1, 1) := by decide +kernel
theorem dX0_factorEnd_2 : decode cX0_factorEnd 2 = .ok (.iadd, 1) := by decide +kernel
theorem dX0_factorEnd_3 : decode cX0_factorEnd 3 = .ok (.aload_n 0, 1) := by decide +kernel
theorem dX0_factorEnd_4 : decode cX0_factorEnd 4 = .ok (.getfield 60, 3) := by decide +kernel
theorem dX0_factorEnd_7 : decode cX0_factorEnd 7 = .ok (.if_icmp .ge 14, 3) := by decide +kernel
theorem dX0_factorEnd_10 : decode cX0_factorEnd 10 = .ok (.aload_n 0, 1) := by decide +kernel
theorem dX0_factorEnd_11 : decode cX0_factorEnd 11 = .ok (.getfield 23, 3) := by decide +kernel
theorem dX0_factorEnd_14 : decode cX0_factorEnd 14 = .ok (.iload_n 1, 1) := by decide +kernel
theorem dX0_factorEnd_15 : decode cX0_factorEnd 15 = .ok (.iconst 1, 1) := by decide +kernel
theorem dX0_factorEnd_16 : decode cX0_factorEnd 16 = .ok (.iadd, 1) := by decide +kernel
theorem dX0_factorEnd_17 : decode cX0_factorEnd 17 = .ok (.iaload, 1) := by decide +kernel
theorem dX0_factorEnd_18 : decode cX0_factorEnd 18 = .ok (.goto 7, 3) := by decide +kernel
theorem dX0_factorEnd_21 : decode cX0_factorEnd 21 = .ok (.aload_n 0, 1) := by decide +kernel
theorem dX0_factorEnd_22 : decode cX0_factorEnd 22 = .ok (.getfield 37, 3) := by decide +kernel
theorem dX0_factorEnd_25 : decode cX0_factorEnd 25 = .ok (.ireturn, 1) := by decide +kernel
theorem dX0_isLyndon_0 : decode cX0_isLyndon 0 = .ok (.iload_n 1, 1) := by decide +kernel
theorem dX0_isLyndon_1 : decode cX0_isLyndon 1 = .ok (.iconst 1, 1) := by decide +kernel
theorem dX0_isLyndon_2 : decode cX0_isLyndon 2 = .ok (.iadd, 1) := by decide +kernel
theorem dX0_isLyndon_3 : decode cX0_isLyndon 3 = .ok (.istore_n 3, 1) := by decide +kernel
theorem dX0_isLyndon_4 : decode cX0_isLyndon 4 = .ok (.iload_n 3, 1) := by decide +kernel
theorem dX0_isLyndon_5 : decode cX0_isLyndon 5 = .ok (.iload_n 2, 1) := by decide +kernel
theorem dX0_isLyndon_6 : decode cX0_isLyndon 6 = .ok (.if_icmp .ge 22, 3) := by decide +kernel
theorem dX0_isLyndon_9 : decode cX0_isLyndon 9 = .ok (.aload_n 0, 1) := by decide +kernel
theorem dX0_isLyndon_10 : decode cX0_isLyndon 10 = .ok (.iload_n 1, 1) := by decide +kernel
theorem dX0_isLyndon_11 : decode cX0_isLyndon 11 = .ok (.iload_n 2, 1) := by decide +kernel
theorem dX0_isLyndon_12 : decode cX0_isLyndon 12 = .ok (.iload_n 3, 1) := by decide +kernel
theorem dX0_isLyndon_13 : decode cX0_isLyndon 13 = .ok (.iload_n 2, 1) := by decide +kernel
theorem dX0_isLyndon_14 : decode cX0_isLyndon 14 = .ok (.invokevirtual 46, 3) := by decide +kernel
theorem dX0_isLyndon_17 : decode cX0_isLyndon 17 = .ok (.ifCond .lt 5, 3) := by decide +kernel
theorem dX0_isLyndon_20 : decode cX0_isLyndon 20 = .ok (.iconst 0, 1) := by decide +kernel
theorem dX0_isLyndon_21 : decode cX0_isLyndon 21 = .ok (.ireturn, 1) := by decide +kernel
theorem dX0_isLyndon_22 : decode cX0_isLyndon 22 = .ok (.iinc 3 1, 3) := by decide +kernel
theorem dX0_isLyndon_25 : decode cX0_isLyndon 25 = .ok (.goto (-21), 3) := by decide +kernel
theorem dX0_isLyndon_28 : decode cX0_isLyndon 28 = .ok (.iload_n 1, 1) := by decide +kernel
theorem dX0_isLyndon_29 : decode cX0_isLyndon 29 = .ok (.iload_n 2, 1) := by decide +kernel
theorem dX0_isLyndon_30 : decode cX0_isLyndon 30 = .ok (.if_icmp .ge 7, 3) := by decide +kernel
theorem dX0_isLyndon_33 : decode cX0_isLyndon 33 = .ok (.iconst 1, 1) := by decide +kernel
theorem dX0_isLyndon_34 : decode cX0_isLyndon 34 = .ok (.goto 4, 3) := by decide +kernel
theorem dX0_isLyndon_37 : decode cX0_isLyndon 37 = .ok (.iconst 0, 1) := by decide +kernel
theorem dX0_isLyndon_38 : decode cX0_isLyndon 38 = .ok (.ireturn, 1) := by decide +kernel
theorem dX0_countWays_0 : decode cX0_countWays 0 = .ok (.aload_n 0, 1) := by decide +kernel
theorem dX0_countWays_1 : decode cX0_countWays 1 = .ok (.getfield 37, 3) := by decide +kernel
theorem dX0_countWays_4 : decode cX0_countWays 4 = .ok (.ifCond .ne 5, 3) := by decide +kernel
theorem dX0_countWays_7 : decode cX0_countWays 7 = .ok (.iconst 1, 1) := by decide +kernel
theorem dX0_countWays_8 : decode cX0_countWays 8 = .ok (.ireturn, 1) := by decide +kernel
theorem dX0_countWays_9 : decode cX0_countWays 9 = .ok (.aload_n 0, 1) := by decide +kernel
theorem dX0_countWays_10 : decode cX0_countWays 10 = .ok (.getfield 37, 3) := by decide +kernel
theorem dX0_countWays_13 : decode cX0_countWays 13 = .ok (.iconst 1, 1) := by decide +kernel
theorem dX0_countWays_14 : decode cX0_countWays 14 = .ok (.isub, 1) := by decide +kernel
theorem dX0_countWays_15 : decode cX0_countWays 15 = .ok (.istore_n 1, 1) := by decide +kernel
theorem dX0_countWays_16 : decode cX0_countWays 16 = .ok (.iload_n 1, 1) := by decide +kernel
theorem dX0_countWays_17 : decode cX0_countWays 17 = .ok (.ifCond .lt 54, 3) := by decide +kernel
theorem dX0_countWays_20 : decode cX0_countWays 20 = .ok (.iload_n 1, 1) := by decide +kernel
theorem dX0_countWays_21 : decode cX0_countWays 21 = .ok (.iconst 1, 1) := by decide +kernel
theorem dX0_countWays_22 : decode cX0_countWays 22 = .ok (.iadd, 1) := by decide +kernel
theorem dX0_countWays_23 : decode cX0_countWays 23 = .ok (.istore_n 2, 1) := by decide +kernel
theorem dX0_countWays_24 : decode cX0_countWays 24 = .ok (.iload_n 2, 1) := by decide +kernel
theorem dX0_countWays_25 : decode cX0_countWays 25 = .ok (.aload_n 0, 1) := by decide +kernel
theorem dX0_countWays_26 : decode cX0_countWays 26 = .ok (.getfield 37, 3) := by decide +kernel
theorem dX0_countWays_29 : decode cX0_countWays 29 = .ok (.if_icmp .gt 36, 3) := by decide +kernel
theorem dX0_countWays_32 : decode cX0_countWays 32 = .ok (.aload_n 0, 1) := by decide +kernel
theorem dX0_countWays_33 : decode cX0_countWays 33 = .ok (.getfield 16, 3) := by decide +kernel
theorem dX0_countWays_36 : decode cX0_countWays 36 = .ok (.iload_n 1, 1) := by decide +kernel
theorem dX0_countWays_37 : decode cX0_countWays 37 = .ok (.aaload, 1) := by decide +kernel
theorem dX0_countWays_38 : decode cX0_countWays 38 = .ok (.iload_n 2, 1) := by decide +kernel
theorem dX0_countWays_39 : decode cX0_countWays 39 = .ok (.aload_n 0, 1) := by decide +kernel
theorem dX0_countWays_40 : decode cX0_countWays 40 = .ok (.iload_n 1, 1) := by decide +kernel
theorem dX0_countWays_41 : decode cX0_countWays 41 = .ok (.iload_n 2, 1) := by decide +kernel
theorem dX0_countWays_42 : decode cX0_countWays 42 = .ok (.invokevirtual 63, 3) := by decide +kernel
theorem dX0_countWays_45 : decode cX0_countWays 45 = .ok (.ifCond .eq 12, 3) := by decide +kernel
theorem dX0_countWays_48 : decode cX0_countWays 48 = .ok (.aload_n 0, 1) := by decide +kernel
theorem dX0_countWays_49 : decode cX0_countWays 49 = .ok (.iload_n 1, 1) := by decide +kernel
theorem dX0_countWays_50 : decode cX0_countWays 50 = .ok (.iload_n 2, 1) := by decide +kernel
theorem dX0_countWays_51 : decode cX0_countWays 51 = .ok (.invokevirtual 67, 3) := by decide +kernel
theorem dX0_countWays_54 : decode cX0_countWays 54 = .ok (.goto 4, 3) := by decide +kernel
theorem dX0_countWays_57 : decode cX0_countWays 57 = .ok (.iconst 0, 1) := by decide +kernel
theorem dX0_countWays_58 : decode cX0_countWays 58 = .ok (.iastore, 1) := by decide +kernel
theorem dX0_countWays_59 : decode cX0_countWays 59 = .ok (.iinc 2 1, 3) := by decide +kernel
theorem dX0_countWays_62 : decode cX0_countWays 62 = .ok (.goto (-38), 3) := by decide +kernel
theorem dX0_countWays_65 : decode cX0_countWays 65 = .ok (.iinc 1 (-1), 3) := by decide +kernel
theorem dX0_countWays_68 : decode cX0_countWays 68 = .ok (.goto (-52), 3) := by decide +kernel
theorem dX0_countWays_71 : decode cX0_countWays 71 = .ok (.iconst 0, 1) := by decide +kernel
theorem dX0_countWays_72 : decode cX0_countWays 72 = .ok (.istore_n 1, 1) := by decide +kernel
theorem dX0_countWays_73 : decode cX0_countWays 73 = .ok (.iconst 1, 1) := by decide +kernel
theorem dX0_countWays_74 : decode cX0_countWays 74 = .ok (.istore_n 2, 1) := by decide +kernel
theorem dX0_countWays_75 : decode cX0_countWays 75 = .ok (.iload_n 2, 1) := by decide +kernel
theorem dX0_countWays_76 : decode cX0_countWays 76 = .ok (.aload_n 0, 1) := by decide +kernel
theorem dX0_countWays_77 : decode cX0_countWays 77 = .ok (.getfield 37, 3) := by decide +kernel
theorem dX0_countWays_80 : decode cX0_countWays 80 = .ok (.if_icmp .gt 20, 3) := by decide +kernel
theorem dX0_countWays_83 : decode cX0_countWays 83 = .ok (.iload_n 1, 1) := by decide +kernel
theorem dX0_countWays_84 : decode cX0_countWays 84 = .ok (.aload_n 0, 1) := by decide +kernel
theorem dX0_countWays_85 : decode cX0_countWays 85 = .ok (.getfield 16, 3) := by decide +kernel
theorem dX0_countWays_88 : decode cX0_countWays 88 = .ok (.iconst 0, 1) := by decide +kernel
theorem dX0_countWays_89 : decode cX0_countWays 89 = .ok (.aaload, 1) := by decide +kernel
theorem dX0_countWays_90 : decode cX0_countWays 90 = .ok (.iload_n 2, 1) := by decide +kernel
theorem dX0_countWays_91 : decode cX0_countWays 91 = .ok (.iaload, 1) := by decide +kernel
theorem dX0_countWays_92 : decode cX0_countWays 92 = .ok (.iadd, 1) := by decide +kernel
theorem dX0_countWays_93 : decode cX0_countWays 93 = .ok (.istore_n 1, 1) := by decide +kernel
theorem dX0_countWays_94 : decode cX0_countWays 94 = .ok (.iinc 2 1, 3) := by decide +kernel
theorem dX0_countWays_97 : decode cX0_countWays 97 = .ok (.goto (-22), 3) := by decide +kernel
theorem dX0_countWays_100 : decode cX0_countWays 100 = .ok (.iload_n 1, 1) := by decide +kernel
theorem dX0_countWays_101 : decode cX0_countWays 101 = .ok (.ireturn, 1) := by decide +kernel
theorem dX0_waysBehind_0 : decode cX0_waysBehind 0 = .ok (.iload_n 2, 1) := by decide +kernel
theorem dX0_waysBehind_1 : decode cX0_waysBehind 1 = .ok (.aload_n 0, 1) := by decide +kernel
theorem dX0_waysBehind_2 : decode cX0_waysBehind 2 = .ok (.getfield 37, 3) := by decide +kernel
theorem dX0_waysBehind_5 : decode cX0_waysBehind 5 = .ok (.if_icmp .ne 5, 3) := by decide +kernel
theorem dX0_waysBehind_8 : decode cX0_waysBehind 8 = .ok (.iconst 1, 1) := by decide +kernel
theorem dX0_waysBehind_9 : decode cX0_waysBehind 9 = .ok (.ireturn, 1) := by decide +kernel
theorem dX0_waysBehind_10 : decode cX0_waysBehind 10 = .ok (.iconst 0, 1) := by decide +kernel
theorem dX0_waysBehind_11 : decode cX0_waysBehind 11 = .ok (.istore_n 3, 1) := by decide +kernel
theorem dX0_waysBehind_12 : decode cX0_waysBehind 12 = .ok (.iload_n 2, 1) := by decide +kernel
theorem dX0_waysBehind_13 : decode cX0_waysBehind 13 = .ok (.iconst 1, 1) := by decide +kernel
theorem dX0_waysBehind_14 : decode cX0_waysBehind 14 = .ok (.iadd, 1) := by decide +kernel
theorem dX0_waysBehind_15 : decode cX0_waysBehind 15 = .ok (.istore 4, 2) := by decide +kernel
theorem dX0_waysBehind_17 : decode cX0_waysBehind 17 = .ok (.iload 4, 2) := by decide +kernel
theorem dX0_waysBehind_19 : decode cX0_waysBehind 19 = .ok (.aload_n 0, 1) := by decide +kernel
theorem dX0_waysBehind_20 : decode cX0_waysBehind 20 = .ok (.getfield 37, 3) := by decide +kernel
theorem dX0_waysBehind_23 : decode cX0_waysBehind 23 = .ok (.if_icmp .gt 45, 3) := by decide +kernel
theorem dX0_waysBehind_26 : decode cX0_waysBehind 26 = .ok (.aload_n 0, 1) := by decide +kernel
theorem dX0_waysBehind_27 : decode cX0_waysBehind 27 = .ok (.getfield 16, 3) := by decide +kernel
theorem dX0_waysBehind_30 : decode cX0_waysBehind 30 = .ok (.iload_n 2, 1) := by decide +kernel
theorem dX0_waysBehind_31 : decode cX0_waysBehind 31 = .ok (.aaload, 1) := by decide +kernel
theorem dX0_waysBehind_32 : decode cX0_waysBehind 32 = .ok (.iload 4, 2) := by decide +kernel
theorem dX0_waysBehind_34 : decode cX0_waysBehind 34 = .ok (.iaload, 1) := by decide +kernel
theorem dX0_waysBehind_35 : decode cX0_waysBehind 35 = .ok (.ifCond .eq 27, 3) := by decide +kernel
theorem dX0_waysBehind_38 : decode cX0_waysBehind 38 = .ok (.aload_n 0, 1) := by decide +kernel
theorem dX0_waysBehind_39 : decode cX0_waysBehind 39 = .ok (.iload_n 1, 1) := by decide +kernel
theorem dX0_waysBehind_40 : decode cX0_waysBehind 40 = .ok (.iload_n 2, 1) := by decide +kernel
theorem dX0_waysBehind_41 : decode cX0_waysBehind 41 = .ok (.iload_n 2, 1) := by decide +kernel
theorem dX0_waysBehind_42 : decode cX0_waysBehind 42 = .ok (.iload 4, 2) := by decide +kernel
theorem dX0_waysBehind_44 : decode cX0_waysBehind 44 = .ok (.invokevirtual 46, 3) := by decide +kernel
theorem dX0_waysBehind_47 : decode cX0_waysBehind 47 = .ok (.ifCond .lt 15, 3) := by decide +kernel
theorem dX0_waysBehind_50 : decode cX0_waysBehind 50 = .ok (.iload_n 3, 1) := by decide +kernel
theorem dX0_waysBehind_51 : decode cX0_waysBehind 51 = .ok (.aload_n 0, 1) := by decide +kernel
theorem dX0_waysBehind_52 : decode cX0_waysBehind 52 = .ok (.getfield 16, 3) := by decide +kernel
theorem dX0_waysBehind_55 : decode cX0_waysBehind 55 = .ok (.iload_n 2, 1) := by decide +kernel
theorem dX0_waysBehind_56 : decode cX0_waysBehind 56 = .ok (.aaload, 1) := by decide +kernel
theorem dX0_waysBehind_57 : decode cX0_waysBehind 57 = .ok (.iload 4, 2) := by decide +kernel
theorem dX0_waysBehind_59 : decode cX0_waysBehind 59 = .ok (.iaload, 1) := by decide +kernel
theorem dX0_waysBehind_60 : decode cX0_waysBehind 60 = .ok (.iadd, 1) := by decide +kernel
theorem dX0_waysBehind_61 : decode cX0_waysBehind 61 = .ok (.istore_n 3, 1) := by decide +kernel
theorem dX0_waysBehind_62 : decode cX0_waysBehind 62 = .ok (.iinc 4 1, 3) := by decide +kernel
theorem dX0_waysBehind_65 : decode cX0_waysBehind 65 = .ok (.goto (-48), 3) := by decide +kernel
theorem dX0_waysBehind_68 : decode cX0_waysBehind 68 = .ok (.iload_n 3, 1) := by decide +kernel
theorem dX0_waysBehind_69 : decode cX0_waysBehind 69 = .ok (.ireturn, 1) := by decide +kernel
theorem dX1_init_0 : decode cX1_init 0 = .ok (.aload_n 0, 1) := by decide +kernel
theorem dX1_init_1 : decode cX1_init 1 = .ok (.invokespecial 3, 3) := by decide +kernel
theorem dX1_init_4 : decode cX1_init 4 = .ok (.aload_n 0, 1) := by decide +kernel
theorem dX1_init_5 : decode cX1_init 5 = .ok (.bipush 32, 2) := by decide +kernel
theorem dX1_init_7 : decode cX1_init 7 = .ok (.newarray .long, 2) := by decide +kernel
theorem dX1_init_9 : decode cX1_init 9 = .ok (.putfield 9, 3) := by decide +kernel
theorem dX1_init_12 : decode cX1_init 12 = .ok (.return_, 1) := by decide +kernel
theorem dX1_hasPeriod_0 : decode cX1_hasPeriod 0 = .ok (.iload_n 1, 1) := by decide +kernel
theorem dX1_hasPeriod_1 : decode cX1_hasPeriod 1 = .ok (.istore_n 2, 1) := by decide +kernel
theorem dX1_hasPeriod_2 : decode cX1_hasPeriod 2 = .ok (.iload_n 2, 1) := by decide +kernel
theorem dX1_hasPeriod_3 : decode cX1_hasPeriod 3 = .ok (.aload_n 0, 1) := by decide +kernel
theorem dX1_hasPeriod_4 : decode cX1_hasPeriod 4 = .ok (.getfield 15, 3) := by decide +kernel
theorem dX1_hasPeriod_7 : decode cX1_hasPeriod 7 = .ok (.if_icmp .ge 29, 3) := by decide +kernel
theorem dX1_hasPeriod_10 : decode cX1_hasPeriod 10 = .ok (.aload_n 0, 1) := by decide +kernel
theorem dX1_hasPeriod_11 : decode cX1_hasPeriod 11 = .ok (.getfield 9, 3) := by decide +kernel
theorem dX1_hasPeriod_14 : decode cX1_hasPeriod 14 = .ok (.iload_n 2, 1) := by decide +kernel
theorem dX1_hasPeriod_15 : decode cX1_hasPeriod 15 = .ok (.laload, 1) := by decide +kernel
theorem dX1_hasPeriod_16 : decode cX1_hasPeriod 16 = .ok (.aload_n 0, 1) := by decide +kernel
theorem dX1_hasPeriod_17 : decode cX1_hasPeriod 17 = .ok (.getfield 9, 3) := by decide +kernel
theorem dX1_hasPeriod_20 : decode cX1_hasPeriod 20 = .ok (.iload_n 2, 1) := by decide +kernel
theorem dX1_hasPeriod_21 : decode cX1_hasPeriod 21 = .ok (.iload_n 1, 1) := by decide +kernel
theorem dX1_hasPeriod_22 : decode cX1_hasPeriod 22 = .ok (.isub, 1) := by decide +kernel
theorem dX1_hasPeriod_23 : decode cX1_hasPeriod 23 = .ok (.laload, 1) := by decide +kernel
theorem dX1_hasPeriod_24 : decode cX1_hasPeriod 24 = .ok (.lcmp, 1) := by decide +kernel
theorem dX1_hasPeriod_25 : decode cX1_hasPeriod 25 = .ok (.ifCond .eq 5, 3) := by decide +kernel
theorem dX1_hasPeriod_28 : decode cX1_hasPeriod 28 = .ok (.iconst 0, 1) := by decide +kernel
theorem dX1_hasPeriod_29 : decode cX1_hasPeriod 29 = .ok (.ireturn, 1) := by decide +kernel
theorem dX1_hasPeriod_30 : decode cX1_hasPeriod 30 = .ok (.iinc 2 1, 3) := by decide +kernel
theorem dX1_hasPeriod_33 : decode cX1_hasPeriod 33 = .ok (.goto (-31), 3) := by decide +kernel
theorem dX1_hasPeriod_36 : decode cX1_hasPeriod 36 = .ok (.iconst 1, 1) := by decide +kernel
theorem dX1_hasPeriod_37 : decode cX1_hasPeriod 37 = .ok (.ireturn, 1) := by decide +kernel
theorem dX1_compareRotations_0 : decode cX1_compareRotations 0 = .ok (.iconst 0, 1) := by decide +kernel
theorem dX1_compareRotations_1 : decode cX1_compareRotations 1 = .ok (.istore 4, 2) := by decide +kernel
theorem dX1_compareRotations_3 : decode cX1_compareRotations 3 = .ok (.iload 4, 2) := by decide +kernel
theorem dX1_compareRotations_5 : decode cX1_compareRotations 5 = .ok (.aload_n 0, 1) := by decide +kernel
theorem dX1_compareRotations_6 : decode cX1_compareRotations 6 = .ok (.getfield 15, 3) := by decide +kernel
theorem dX1_compareRotations_9 : decode cX1_compareRotations 9 = .ok (.if_icmp .ge 39, 3) := by decide +kernel
theorem dX1_compareRotations_12 : decode cX1_compareRotations 12 = .ok (.aload_n 0, 1) := by decide +kernel
theorem dX1_compareRotations_13 : decode cX1_compareRotations 13 = .ok (.iload_n 1, 1) := by decide +kernel
theorem dX1_compareRotations_14 : decode cX1_compareRotations 14 = .ok (.iload 4, 2) := by decide +kernel
theorem dX1_compareRotations_16 : decode cX1_compareRotations 16 = .ok (.iadd, 1) := by decide +kernel
theorem dX1_compareRotations_17 : decode cX1_compareRotations 17 = .ok (.invokevirtual 19, 3) := by decide +kernel
theorem dX1_compareRotations_20 : decode cX1_compareRotations 20 = .ok (.aload_n 0, 1) := by decide +kernel
theorem dX1_compareRotations_21 : decode cX1_compareRotations 21 = .ok (.iload_n 2, 1) := by decide +kernel
theorem dX1_compareRotations_22 : decode cX1_compareRotations 22 = .ok (.iload 4, 2) := by decide +kernel
theorem dX1_compareRotations_24 : decode cX1_compareRotations 24 = .ok (.iadd, 1) := by decide +kernel
theorem dX1_compareRotations_25 : decode cX1_compareRotations 25 = .ok (.invokevirtual 19, 3) := by decide +kernel
theorem dX1_compareRotations_28 : decode cX1_compareRotations 28 = .ok (.iload_n 3, 1) := by decide +kernel
theorem dX1_compareRotations_29 : decode cX1_compareRotations 29 = .ok (.invokestatic 23, 3) := by decide +kernel
theorem dX1_compareRotations_32 : decode cX1_compareRotations 32 = .ok (.istore 5, 2) := by decide +kernel
theorem dX1_compareRotations_34 : decode cX1_compareRotations 34 = .ok (.iload 5, 2) := by decide +kernel
theorem dX1_compareRotations_36 : decode cX1_compareRotations 36 = .ok (.ifCond .eq 6, 3) := by decide +kernel
theorem dX1_compareRotations_39 : decode cX1_compareRotations 39 = .ok (.iload 5, 2) := by decide +kernel
theorem dX1_compareRotations_41 : decode cX1_compareRotations 41 = .ok (.ireturn, 1) := by decide +kernel
theorem dX1_compareRotations_42 : decode cX1_compareRotations 42 = .ok (.iinc 4 1, 3) := by decide +kernel
theorem dX1_compareRotations_45 : decode cX1_compareRotations 45 = .ok (.goto (-42), 3) := by decide +kernel
theorem dX1_compareRotations_48 : decode cX1_compareRotations 48 = .ok (.iconst 0, 1) := by decide +kernel
theorem dX1_compareRotations_49 : decode cX1_compareRotations 49 = .ok (.ireturn, 1) := by decide +kernel
theorem dX1_atRound_0 : decode cX1_atRound 0 = .ok (.aload_n 0, 1) := by decide +kernel
theorem dX1_atRound_1 : decode cX1_atRound 1 = .ok (.getfield 9, 3) := by decide +kernel
theorem dX1_atRound_4 : decode cX1_atRound 4 = .ok (.iload_n 1, 1) := by decide +kernel
theorem dX1_atRound_5 : decode cX1_atRound 5 = .ok (.aload_n 0, 1) := by decide +kernel
theorem dX1_atRound_6 : decode cX1_atRound 6 = .ok (.getfield 15, 3) := by decide +kernel
theorem dX1_atRound_9 : decode cX1_atRound 9 = .ok (.if_icmp .ge 7, 3) := by decide +kernel
theorem dX1_atRound_12 : decode cX1_atRound 12 = .ok (.iload_n 1, 1) := by decide +kernel
theorem dX1_atRound_13 : decode cX1_atRound 13 = .ok (.goto 9, 3) := by decide +kernel
theorem dX1_atRound_16 : decode cX1_atRound 16 = .ok (.iload_n 1, 1) := by decide +kernel
theorem dX1_atRound_17 : decode cX1_atRound 17 = .ok (.aload_n 0, 1) := by decide +kernel
theorem dX1_atRound_18 : decode cX1_atRound 18 = .ok (.getfield 15, 3) := by decide +kernel
theorem dX1_atRound_21 : decode cX1_atRound 21 = .ok (.isub, 1) := by decide +kernel
theorem dX1_atRound_22 : decode cX1_atRound 22 = .ok (.laload, 1) := by decide +kernel
theorem dX1_atRound_23 : decode cX1_atRound 23 = .ok (.lreturn, 1) := by decide +kernel
theorem dX2_countIsTrue_0 : decode cX2_countIsTrue 0 = .ok (.aload_n 0, 1) := by decide +kernel
theorem dX2_countIsTrue_1 : decode cX2_countIsTrue 1 = .ok (.getfield 7, 3) := by decide +kernel
theorem dX2_countIsTrue_4 : decode cX2_countIsTrue 4 = .ok (.aload_n 0, 1) := by decide +kernel
theorem dX2_countIsTrue_5 : decode cX2_countIsTrue 5 = .ok (.getfield 7, 3) := by decide +kernel
theorem dX2_countIsTrue_8 : decode cX2_countIsTrue 8 = .ok (.iconst 1, 1) := by decide +kernel
theorem dX2_countIsTrue_9 : decode cX2_countIsTrue 9 = .ok (.iadd, 1) := by decide +kernel
theorem dX2_countIsTrue_10 : decode cX2_countIsTrue 10 = .ok (.imul, 1) := by decide +kernel
theorem dX2_countIsTrue_11 : decode cX2_countIsTrue 11 = .ok (.iconst 2, 1) := by decide +kernel
theorem dX2_countIsTrue_12 : decode cX2_countIsTrue 12 = .ok (.idiv, 1) := by decide +kernel
theorem dX2_countIsTrue_13 : decode cX2_countIsTrue 13 = .ok (.istore_n 1, 1) := by decide +kernel
theorem dX2_countIsTrue_14 : decode cX2_countIsTrue 14 = .ok (.iconst 1, 1) := by decide +kernel
theorem dX2_countIsTrue_15 : decode cX2_countIsTrue 15 = .ok (.istore_n 2, 1) := by decide +kernel
theorem dX2_countIsTrue_16 : decode cX2_countIsTrue 16 = .ok (.iload_n 2, 1) := by decide +kernel
theorem dX2_countIsTrue_17 : decode cX2_countIsTrue 17 = .ok (.aload_n 0, 1) := by decide +kernel
theorem dX2_countIsTrue_18 : decode cX2_countIsTrue 18 = .ok (.getfield 7, 3) := by decide +kernel
theorem dX2_countIsTrue_21 : decode cX2_countIsTrue 21 = .ok (.if_icmp .ge 32, 3) := by decide +kernel
theorem dX2_countIsTrue_24 : decode cX2_countIsTrue 24 = .ok (.iload_n 1, 1) := by decide +kernel
theorem dX2_countIsTrue_25 : decode cX2_countIsTrue 25 = .ok (.aload_n 0, 1) := by decide +kernel
theorem dX2_countIsTrue_26 : decode cX2_countIsTrue 26 = .ok (.getfield 13, 3) := by decide +kernel
theorem dX2_countIsTrue_29 : decode cX2_countIsTrue 29 = .ok (.aload_n 0, 1) := by decide +kernel
theorem dX2_countIsTrue_30 : decode cX2_countIsTrue 30 = .ok (.getfield 17, 3) := by decide +kernel
theorem dX2_countIsTrue_33 : decode cX2_countIsTrue 33 = .ok (.iload_n 2, 1) := by decide +kernel
theorem dX2_countIsTrue_34 : decode cX2_countIsTrue 34 = .ok (.iconst 1, 1) := by decide +kernel
theorem dX2_countIsTrue_35 : decode cX2_countIsTrue 35 = .ok (.isub, 1) := by decide +kernel
theorem dX2_countIsTrue_36 : decode cX2_countIsTrue 36 = .ok (.iaload, 1) := by decide +kernel
theorem dX2_countIsTrue_37 : decode cX2_countIsTrue 37 = .ok (.aaload, 1) := by decide +kernel
theorem dX2_countIsTrue_38 : decode cX2_countIsTrue 38 = .ok (.aload_n 0, 1) := by decide +kernel
theorem dX2_countIsTrue_39 : decode cX2_countIsTrue 39 = .ok (.getfield 17, 3) := by decide +kernel
theorem dX2_countIsTrue_42 : decode cX2_countIsTrue 42 = .ok (.iload_n 2, 1) := by decide +kernel
theorem dX2_countIsTrue_43 : decode cX2_countIsTrue 43 = .ok (.iaload, 1) := by decide +kernel
theorem dX2_countIsTrue_44 : decode cX2_countIsTrue 44 = .ok (.iaload, 1) := by decide +kernel
theorem dX2_countIsTrue_45 : decode cX2_countIsTrue 45 = .ok (.isub, 1) := by decide +kernel
theorem dX2_countIsTrue_46 : decode cX2_countIsTrue 46 = .ok (.istore_n 1, 1) := by decide +kernel
theorem dX2_countIsTrue_47 : decode cX2_countIsTrue 47 = .ok (.iinc 2 1, 3) := by decide +kernel
theorem dX2_countIsTrue_50 : decode cX2_countIsTrue 50 = .ok (.goto (-34), 3) := by decide +kernel
theorem dX2_countIsTrue_53 : decode cX2_countIsTrue 53 = .ok (.iload_n 1, 1) := by decide +kernel
theorem dX2_countIsTrue_54 : decode cX2_countIsTrue 54 = .ok (.aload_n 0, 1) := by decide +kernel
theorem dX2_countIsTrue_55 : decode cX2_countIsTrue 55 = .ok (.invokevirtual 21, 3) := by decide +kernel
theorem dX2_countIsTrue_58 : decode cX2_countIsTrue 58 = .ok (.if_icmp .ne 7, 3) := by decide +kernel
theorem dX2_countIsTrue_61 : decode cX2_countIsTrue 61 = .ok (.iconst 1, 1) := by decide +kernel
theorem dX2_countIsTrue_62 : decode cX2_countIsTrue 62 = .ok (.goto 4, 3) := by decide +kernel
theorem dX2_countIsTrue_65 : decode cX2_countIsTrue 65 = .ok (.iconst 0, 1) := by decide +kernel
theorem dX2_countIsTrue_66 : decode cX2_countIsTrue 66 = .ok (.ireturn, 1) := by decide +kernel
theorem dX2_periodsAreTrue_0 : decode cX2_periodsAreTrue 0 = .ok (.aload_n 0, 1) := by decide +kernel
theorem dX2_periodsAreTrue_1 : decode cX2_periodsAreTrue 1 = .ok (.getfield 25, 3) := by decide +kernel
theorem dX2_periodsAreTrue_4 : decode cX2_periodsAreTrue 4 = .ok (.istore_n 2, 1) := by decide +kernel
theorem dX2_periodsAreTrue_5 : decode cX2_periodsAreTrue 5 = .ok (.iconst 1, 1) := by decide +kernel
theorem dX2_periodsAreTrue_6 : decode cX2_periodsAreTrue 6 = .ok (.istore_n 3, 1) := by decide +kernel
theorem dX2_periodsAreTrue_7 : decode cX2_periodsAreTrue 7 = .ok (.iload_n 3, 1) := by decide +kernel
theorem dX2_periodsAreTrue_8 : decode cX2_periodsAreTrue 8 = .ok (.iload_n 2, 1) := by decide +kernel
theorem dX2_periodsAreTrue_9 : decode cX2_periodsAreTrue 9 = .ok (.if_icmp .gt 82, 3) := by decide +kernel
theorem dX2_periodsAreTrue_12 : decode cX2_periodsAreTrue 12 = .ok (.aload_n 1, 1) := by decide +kernel
theorem dX2_periodsAreTrue_13 : decode cX2_periodsAreTrue 13 = .ok (.iconst 0, 1) := by decide +kernel
theorem dX2_periodsAreTrue_14 : decode cX2_periodsAreTrue 14 = .ok (.iload_n 2, 1) := by decide +kernel
theorem dX2_periodsAreTrue_15 : decode cX2_periodsAreTrue 15 = .ok (.iload_n 3, 1) := by decide +kernel
theorem dX2_periodsAreTrue_16 : decode cX2_periodsAreTrue 16 = .ok (.isub, 1) := by decide +kernel
theorem dX2_periodsAreTrue_17 : decode cX2_periodsAreTrue 17 = .ok (.iload_n 3, 1) := by decide +kernel
theorem dX2_periodsAreTrue_18 : decode cX2_periodsAreTrue 18 = .ok (.iload_n 2, 1) := by decide +kernel
theorem dX2_periodsAreTrue_19 : decode cX2_periodsAreTrue 19 = .ok (.invokevirtual 28, 3) := by decide +kernel
theorem dX2_periodsAreTrue_22 : decode cX2_periodsAreTrue 22 = .ok (.ifCond .ne 7, 3) := by decide +kernel
theorem dX2_periodsAreTrue_25 : decode cX2_periodsAreTrue 25 = .ok (.iconst 1, 1) := by decide +kernel
theorem dX2_periodsAreTrue_26 : decode cX2_periodsAreTrue 26 = .ok (.goto 4, 3) := by decide +kernel
theorem dX2_periodsAreTrue_29 : decode cX2_periodsAreTrue 29 = .ok (.iconst 0, 1) := by decide +kernel
theorem dX2_periodsAreTrue_30 : decode cX2_periodsAreTrue 30 = .ok (.istore 4, 2) := by decide +kernel
theorem dX2_periodsAreTrue_32 : decode cX2_periodsAreTrue 32 = .ok (.aload_n 0, 1) := by decide +kernel
theorem dX2_periodsAreTrue_33 : decode cX2_periodsAreTrue 33 = .ok (.iload_n 3, 1) := by decide +kernel
theorem dX2_periodsAreTrue_34 : decode cX2_periodsAreTrue 34 = .ok (.invokevirtual 32, 3) := by decide +kernel
theorem dX2_periodsAreTrue_37 : decode cX2_periodsAreTrue 37 = .ok (.iload 4, 2) := by decide +kernel
theorem dX2_periodsAreTrue_39 : decode cX2_periodsAreTrue 39 = .ok (.if_icmp .eq 5, 3) := by decide +kernel
theorem dX2_periodsAreTrue_42 : decode cX2_periodsAreTrue 42 = .ok (.iconst 0, 1) := by decide +kernel
theorem dX2_periodsAreTrue_43 : decode cX2_periodsAreTrue 43 = .ok (.ireturn, 1) := by decide +kernel
theorem dX2_periodsAreTrue_44 : decode cX2_periodsAreTrue 44 = .ok (.iconst 1, 1) := by decide +kernel
theorem dX2_periodsAreTrue_45 : decode cX2_periodsAreTrue 45 = .ok (.istore 5, 2) := by decide +kernel
theorem dX2_periodsAreTrue_47 : decode cX2_periodsAreTrue 47 = .ok (.iload 5, 2) := by decide +kernel
theorem dX2_periodsAreTrue_49 : decode cX2_periodsAreTrue 49 = .ok (.iload_n 3, 1) := by decide +kernel
theorem dX2_periodsAreTrue_50 : decode cX2_periodsAreTrue 50 = .ok (.if_icmp .ge 35, 3) := by decide +kernel
theorem dX2_periodsAreTrue_53 : decode cX2_periodsAreTrue 53 = .ok (.iload 4, 2) := by decide +kernel
theorem dX2_periodsAreTrue_55 : decode cX2_periodsAreTrue 55 = .ok (.ifCond .eq 30, 3) := by decide +kernel
theorem dX2_periodsAreTrue_58 : decode cX2_periodsAreTrue 58 = .ok (.aload_n 0, 1) := by decide +kernel
theorem dX2_periodsAreTrue_59 : decode cX2_periodsAreTrue 59 = .ok (.iload 5, 2) := by decide +kernel
theorem dX2_periodsAreTrue_61 : decode cX2_periodsAreTrue 61 = .ok (.invokevirtual 32, 3) := by decide +kernel
theorem dX2_periodsAreTrue_64 : decode cX2_periodsAreTrue 64 = .ok (.ifCond .eq 15, 3) := by decide +kernel
theorem dX2_periodsAreTrue_67 : decode cX2_periodsAreTrue 67 = .ok (.aload_n 0, 1) := by decide +kernel
theorem dX2_periodsAreTrue_68 : decode cX2_periodsAreTrue 68 = .ok (.iload_n 3, 1) := by decide +kernel
theorem dX2_periodsAreTrue_69 : decode cX2_periodsAreTrue 69 = .ok (.iload 5, 2) := by decide +kernel
theorem dX2_periodsAreTrue_71 : decode cX2_periodsAreTrue 71 = .ok (.invokestatic 36, 3) := by decide +kernel
theorem dX2_periodsAreTrue_74 : decode cX2_periodsAreTrue 74 = .ok (.ifCond .ne 5, 3) := by decide +kernel
theorem dX2_periodsAreTrue_77 : decode cX2_periodsAreTrue 77 = .ok (.iconst 0, 1) := by decide +kernel
theorem dX2_periodsAreTrue_78 : decode cX2_periodsAreTrue 78 = .ok (.ireturn, 1) := by decide +kernel
theorem dX2_periodsAreTrue_79 : decode cX2_periodsAreTrue 79 = .ok (.iinc 5 1, 3) := by decide +kernel
theorem dX2_periodsAreTrue_82 : decode cX2_periodsAreTrue 82 = .ok (.goto (-35), 3) := by decide +kernel
theorem dX2_periodsAreTrue_85 : decode cX2_periodsAreTrue 85 = .ok (.iinc 3 1, 3) := by decide +kernel
theorem dX2_periodsAreTrue_88 : decode cX2_periodsAreTrue 88 = .ok (.goto (-81), 3) := by decide +kernel
theorem dX2_periodsAreTrue_91 : decode cX2_periodsAreTrue 91 = .ok (.iconst 1, 1) := by decide +kernel
theorem dX2_periodsAreTrue_92 : decode cX2_periodsAreTrue 92 = .ok (.ireturn, 1) := by decide +kernel
theorem dX2_divisorIsTrue_0 : decode cX2_divisorIsTrue 0 = .ok (.iload_n 1, 1) := by decide +kernel
theorem dX2_divisorIsTrue_1 : decode cX2_divisorIsTrue 1 = .ok (.iload_n 2, 1) := by decide +kernel
theorem dX2_divisorIsTrue_2 : decode cX2_divisorIsTrue 2 = .ok (.invokestatic 42, 3) := by decide +kernel
theorem dX2_divisorIsTrue_5 : decode cX2_divisorIsTrue 5 = .ok (.istore_n 3, 1) := by decide +kernel
theorem dX2_divisorIsTrue_6 : decode cX2_divisorIsTrue 6 = .ok (.iload_n 1, 1) := by decide +kernel
theorem dX2_divisorIsTrue_7 : decode cX2_divisorIsTrue 7 = .ok (.iload_n 2, 1) := by decide +kernel
theorem dX2_divisorIsTrue_8 : decode cX2_divisorIsTrue 8 = .ok (.iadd, 1) := by decide +kernel
theorem dX2_divisorIsTrue_9 : decode cX2_divisorIsTrue 9 = .ok (.iload_n 3, 1) := by decide +kernel
theorem dX2_divisorIsTrue_10 : decode cX2_divisorIsTrue 10 = .ok (.isub, 1) := by decide +kernel
theorem dX2_divisorIsTrue_11 : decode cX2_divisorIsTrue 11 = .ok (.aload_n 0, 1) := by decide +kernel
theorem dX2_divisorIsTrue_12 : decode cX2_divisorIsTrue 12 = .ok (.getfield 25, 3) := by decide +kernel
theorem dX2_divisorIsTrue_15 : decode cX2_divisorIsTrue 15 = .ok (.if_icmp .gt 11, 3) := by decide +kernel
theorem dX2_divisorIsTrue_18 : decode cX2_divisorIsTrue 18 = .ok (.aload_n 0, 1) := by decide +kernel
theorem dX2_divisorIsTrue_19 : decode cX2_divisorIsTrue 19 = .ok (.iload_n 3, 1) := by decide +kernel
theorem dX2_divisorIsTrue_20 : decode cX2_divisorIsTrue 20 = .ok (.invokevirtual 32, 3) := by decide +kernel
theorem dX2_divisorIsTrue_23 : decode cX2_divisorIsTrue 23 = .ok (.ifCond .eq 7, 3) := by decide +kernel
theorem dX2_divisorIsTrue_26 : decode cX2_divisorIsTrue 26 = .ok (.iconst 1, 1) := by decide +kernel
theorem dX2_divisorIsTrue_27 : decode cX2_divisorIsTrue 27 = .ok (.goto 4, 3) := by decide +kernel
theorem dX2_divisorIsTrue_30 : decode cX2_divisorIsTrue 30 = .ok (.iconst 0, 1) := by decide +kernel
theorem dX2_divisorIsTrue_31 : decode cX2_divisorIsTrue 31 = .ok (.ireturn, 1) := by decide +kernel
theorem dX2_greatestDivisor_0 : decode cX2_greatestDivisor 0 = .ok (.iload_n 0, 1) := by decide +kernel
theorem dX2_greatestDivisor_1 : decode cX2_greatestDivisor 1 = .ok (.iload_n 1, 1) := by decide +kernel
theorem dX2_greatestDivisor_2 : decode cX2_greatestDivisor 2 = .ok (.invokestatic 46, 3) := by decide +kernel
theorem dX2_greatestDivisor_5 : decode cX2_greatestDivisor 5 = .ok (.istore_n 2, 1) := by decide +kernel
theorem dX2_greatestDivisor_6 : decode cX2_greatestDivisor 6 = .ok (.iload_n 2, 1) := by decide +kernel
theorem dX2_greatestDivisor_7 : decode cX2_greatestDivisor 7 = .ok (.iconst 1, 1) := by decide +kernel
theorem dX2_greatestDivisor_8 : decode cX2_greatestDivisor 8 = .ok (.if_icmp .le 23, 3) := by decide +kernel
theorem dX2_greatestDivisor_11 : decode cX2_greatestDivisor 11 = .ok (.iload_n 0, 1) := by decide +kernel
theorem dX2_greatestDivisor_12 : decode cX2_greatestDivisor 12 = .ok (.iload_n 2, 1) := by decide +kernel
theorem dX2_greatestDivisor_13 : decode cX2_greatestDivisor 13 = .ok (.irem, 1) := by decide +kernel
theorem dX2_greatestDivisor_14 : decode cX2_greatestDivisor 14 = .ok (.ifCond .ne 11, 3) := by decide +kernel
theorem dX2_greatestDivisor_17 : decode cX2_greatestDivisor 17 = .ok (.iload_n 1, 1) := by decide +kernel
theorem dX2_greatestDivisor_18 : decode cX2_greatestDivisor 18 = .ok (.iload_n 2, 1) := by decide +kernel
theorem dX2_greatestDivisor_19 : decode cX2_greatestDivisor 19 = .ok (.irem, 1) := by decide +kernel
theorem dX2_greatestDivisor_20 : decode cX2_greatestDivisor 20 = .ok (.ifCond .ne 5, 3) := by decide +kernel
theorem dX2_greatestDivisor_23 : decode cX2_greatestDivisor 23 = .ok (.iload_n 2, 1) := by decide +kernel
theorem dX2_greatestDivisor_24 : decode cX2_greatestDivisor 24 = .ok (.ireturn, 1) := by decide +kernel
theorem dX2_greatestDivisor_25 : decode cX2_greatestDivisor 25 = .ok (.iinc 2 (-1), 3) := by decide +kernel
theorem dX2_greatestDivisor_28 : decode cX2_greatestDivisor 28 = .ok (.goto (-22), 3) := by decide +kernel
theorem dX2_greatestDivisor_31 : decode cX2_greatestDivisor 31 = .ok (.iconst 1, 1) := by decide +kernel
theorem dX2_greatestDivisor_32 : decode cX2_greatestDivisor 32 = .ok (.ireturn, 1) := by decide +kernel
theorem dX2_factorsAreTrue_0 : decode cX2_factorsAreTrue 0 = .ok (.aload_n 0, 1) := by decide +kernel
theorem dX2_factorsAreTrue_1 : decode cX2_factorsAreTrue 1 = .ok (.getfield 51, 3) := by decide +kernel
theorem dX2_factorsAreTrue_4 : decode cX2_factorsAreTrue 4 = .ok (.iconst 1, 1) := by decide +kernel
theorem dX2_factorsAreTrue_5 : decode cX2_factorsAreTrue 5 = .ok (.isub, 1) := by decide +kernel
theorem dX2_factorsAreTrue_6 : decode cX2_factorsAreTrue 6 = .ok (.istore_n 1, 1) := by decide +kernel
theorem dX2_factorsAreTrue_7 : decode cX2_factorsAreTrue 7 = .ok (.iconst 0, 1) := by decide +kernel
theorem dX2_factorsAreTrue_8 : decode cX2_factorsAreTrue 8 = .ok (.istore_n 2, 1) := by decide +kernel
theorem dX2_factorsAreTrue_9 : decode cX2_factorsAreTrue 9 = .ok (.iload_n 2, 1) := by decide +kernel
theorem dX2_factorsAreTrue_10 : decode cX2_factorsAreTrue 10 = .ok (.iload_n 1, 1) := by decide +kernel
theorem dX2_factorsAreTrue_11 : decode cX2_factorsAreTrue 11 = .ok (.if_icmp .gt 61, 3) := by decide +kernel
theorem dX2_factorsAreTrue_14 : decode cX2_factorsAreTrue 14 = .ok (.aload_n 0, 1) := by decide +kernel
theorem dX2_factorsAreTrue_15 : decode cX2_factorsAreTrue 15 = .ok (.getfield 54, 3) := by decide +kernel
theorem dX2_factorsAreTrue_18 : decode cX2_factorsAreTrue 18 = .ok (.iload_n 2, 1) := by decide +kernel
theorem dX2_factorsAreTrue_19 : decode cX2_factorsAreTrue 19 = .ok (.iaload, 1) := by decide +kernel
theorem dX2_factorsAreTrue_20 : decode cX2_factorsAreTrue 20 = .ok (.istore_n 3, 1) := by decide +kernel
theorem dX2_factorsAreTrue_21 : decode cX2_factorsAreTrue 21 = .ok (.aload_n 0, 1) := by decide +kernel
theorem dX2_factorsAreTrue_22 : decode cX2_factorsAreTrue 22 = .ok (.iload_n 2, 1) := by decide +kernel
theorem dX2_factorsAreTrue_23 : decode cX2_factorsAreTrue 23 = .ok (.invokevirtual 57, 3) := by decide +kernel
theorem dX2_factorsAreTrue_26 : decode cX2_factorsAreTrue 26 = .ok (.istore 4, 2) := by decide +kernel
theorem dX2_factorsAreTrue_28 : decode cX2_factorsAreTrue 28 = .ok (.aload_n 0, 1) := by decide +kernel
theorem dX2_factorsAreTrue_29 : decode cX2_factorsAreTrue 29 = .ok (.iload_n 3, 1) := by decide +kernel
theorem dX2_factorsAreTrue_30 : decode cX2_factorsAreTrue 30 = .ok (.iload 4, 2) := by decide +kernel
theorem dX2_factorsAreTrue_32 : decode cX2_factorsAreTrue 32 = .ok (.invokevirtual 61, 3) := by decide +kernel
theorem dX2_factorsAreTrue_35 : decode cX2_factorsAreTrue 35 = .ok (.ifCond .ne 5, 3) := by decide +kernel
theorem dX2_factorsAreTrue_38 : decode cX2_factorsAreTrue 38 = .ok (.iconst 0, 1) := by decide +kernel
theorem dX2_factorsAreTrue_39 : decode cX2_factorsAreTrue 39 = .ok (.ireturn, 1) := by decide +kernel
theorem dX2_factorsAreTrue_40 : decode cX2_factorsAreTrue 40 = .ok (.iload_n 2, 1) := by decide +kernel
theorem dX2_factorsAreTrue_41 : decode cX2_factorsAreTrue 41 = .ok (.iload_n 1, 1) := by decide +kernel
theorem dX2_factorsAreTrue_42 : decode cX2_factorsAreTrue 42 = .ok (.if_icmp .ge 24, 3) := by decide +kernel
theorem dX2_factorsAreTrue_45 : decode cX2_factorsAreTrue 45 = .ok (.aload_n 0, 1) := by decide +kernel
theorem dX2_factorsAreTrue_46 : decode cX2_factorsAreTrue 46 = .ok (.iload_n 3, 1) := by decide +kernel
theorem dX2_factorsAreTrue_47 : decode cX2_factorsAreTrue 47 = .ok (.iload 4, 2) := by decide +kernel
theorem dX2_factorsAreTrue_49 : decode cX2_factorsAreTrue 49 = .ok (.iload 4, 2) := by decide +kernel
theorem dX2_factorsAreTrue_51 : decode cX2_factorsAreTrue 51 = .ok (.aload_n 0, 1) := by decide +kernel
theorem dX2_factorsAreTrue_52 : decode cX2_factorsAreTrue 52 = .ok (.iload_n 2, 1) := by decide +kernel
theorem dX2_factorsAreTrue_53 : decode cX2_factorsAreTrue 53 = .ok (.iconst 1, 1) := by decide +kernel
theorem dX2_factorsAreTrue_54 : decode cX2_factorsAreTrue 54 = .ok (.iadd, 1) := by decide +kernel
theorem dX2_factorsAreTrue_55 : decode cX2_factorsAreTrue 55 = .ok (.invokevirtual 57, 3) := by decide +kernel
theorem dX2_factorsAreTrue_58 : decode cX2_factorsAreTrue 58 = .ok (.invokevirtual 28, 3) := by decide +kernel
theorem dX2_factorsAreTrue_61 : decode cX2_factorsAreTrue 61 = .ok (.ifCond .ge 5, 3) := by decide +kernel
theorem dX2_factorsAreTrue_64 : decode cX2_factorsAreTrue 64 = .ok (.iconst 0, 1) := by decide +kernel
theorem dX2_factorsAreTrue_65 : decode cX2_factorsAreTrue 65 = .ok (.ireturn, 1) := by decide +kernel
theorem dX2_factorsAreTrue_66 : decode cX2_factorsAreTrue 66 = .ok (.iinc 2 1, 3) := by decide +kernel
theorem dX2_factorsAreTrue_69 : decode cX2_factorsAreTrue 69 = .ok (.goto (-60), 3) := by decide +kernel
theorem dX2_factorsAreTrue_72 : decode cX2_factorsAreTrue 72 = .ok (.iload_n 1, 1) := by decide +kernel
theorem dX2_factorsAreTrue_73 : decode cX2_factorsAreTrue 73 = .ok (.ifCond .lt 18, 3) := by decide +kernel
theorem dX2_factorsAreTrue_76 : decode cX2_factorsAreTrue 76 = .ok (.aload_n 0, 1) := by decide +kernel
theorem dX2_factorsAreTrue_77 : decode cX2_factorsAreTrue 77 = .ok (.getfield 54, 3) := by decide +kernel
theorem dX2_factorsAreTrue_80 : decode cX2_factorsAreTrue 80 = .ok (.iload_n 1, 1) := by decide +kernel
theorem dX2_factorsAreTrue_81 : decode cX2_factorsAreTrue 81 = .ok (.iaload, 1) := by decide +kernel
theorem dX2_factorsAreTrue_82 : decode cX2_factorsAreTrue 82 = .ok (.aload_n 0, 1) := by decide +kernel
theorem dX2_factorsAreTrue_83 : decode cX2_factorsAreTrue 83 = .ok (.getfield 17, 3) := by decide +kernel
theorem dX2_factorsAreTrue_86 : decode cX2_factorsAreTrue 86 = .ok (.iconst 0, 1) := by decide +kernel
theorem dX2_factorsAreTrue_87 : decode cX2_factorsAreTrue 87 = .ok (.iaload, 1) := by decide +kernel
theorem dX2_factorsAreTrue_88 : decode cX2_factorsAreTrue 88 = .ok (.if_icmp .ne 7, 3) := by decide +kernel
theorem dX2_factorsAreTrue_91 : decode cX2_factorsAreTrue 91 = .ok (.iconst 1, 1) := by decide +kernel
theorem dX2_factorsAreTrue_92 : decode cX2_factorsAreTrue 92 = .ok (.goto 4, 3) := by decide +kernel
theorem dX2_factorsAreTrue_95 : decode cX2_factorsAreTrue 95 = .ok (.iconst 0, 1) := by decide +kernel
theorem dX2_factorsAreTrue_96 : decode cX2_factorsAreTrue 96 = .ok (.istore_n 2, 1) := by decide +kernel
theorem dX2_factorsAreTrue_97 : decode cX2_factorsAreTrue 97 = .ok (.iload_n 2, 1) := by decide +kernel
theorem dX2_factorsAreTrue_98 : decode cX2_factorsAreTrue 98 = .ok (.ifCond .eq 15, 3) := by decide +kernel
theorem dX2_factorsAreTrue_101 : decode cX2_factorsAreTrue 101 = .ok (.aload_n 0, 1) := by decide +kernel
theorem dX2_factorsAreTrue_102 : decode cX2_factorsAreTrue 102 = .ok (.invokevirtual 65, 3) := by decide +kernel
theorem dX2_factorsAreTrue_105 : decode cX2_factorsAreTrue 105 = .ok (.iconst 1, 1) := by decide +kernel
theorem dX2_factorsAreTrue_106 : decode cX2_factorsAreTrue 106 = .ok (.if_icmp .ne 7, 3) := by decide +kernel
theorem dX2_factorsAreTrue_109 : decode cX2_factorsAreTrue 109 = .ok (.iconst 1, 1) := by decide +kernel
theorem dX2_factorsAreTrue_110 : decode cX2_factorsAreTrue 110 = .ok (.goto 4, 3) := by decide +kernel
theorem dX2_factorsAreTrue_113 : decode cX2_factorsAreTrue 113 = .ok (.iconst 0, 1) := by decide +kernel
theorem dX2_factorsAreTrue_114 : decode cX2_factorsAreTrue 114 = .ok (.ireturn, 1) := by decide +kernel
theorem dX3_init_0 : decode cX3_init 0 = .ok (.aload_n 0, 1) := by decide +kernel
theorem dX3_init_1 : decode cX3_init 1 = .ok (.invokespecial 1, 3) := by decide +kernel
theorem dX3_init_4 : decode cX3_init 4 = .ok (.return_, 1) := by decide +kernel
theorem dX4_init_0 : decode cX4_init 0 = .ok (.aload_n 0, 1) := by decide +kernel
theorem dX4_init_1 : decode cX4_init 1 = .ok (.invokespecial 1, 3) := by decide +kernel
theorem dX4_init_4 : decode cX4_init 4 = .ok (.aload_n 0, 1) := by decide +kernel
theorem dX4_init_5 : decode cX4_init 5 = .ok (.aload_n 1, 1) := by decide +kernel
theorem dX4_init_6 : decode cX4_init 6 = .ok (.putfield 7, 3) := by decide +kernel
theorem dX4_init_9 : decode cX4_init 9 = .ok (.aload_n 0, 1) := by decide +kernel
theorem dX4_init_10 : decode cX4_init 10 = .ok (.iload_n 2, 1) := by decide +kernel
theorem dX4_init_11 : decode cX4_init 11 = .ok (.putfield 13, 3) := by decide +kernel
theorem dX4_init_14 : decode cX4_init 14 = .ok (.aload_n 0, 1) := by decide +kernel
theorem dX4_init_15 : decode cX4_init 15 = .ok (.iload_n 3, 1) := by decide +kernel
theorem dX4_init_16 : decode cX4_init 16 = .ok (.putfield 17, 3) := by decide +kernel
theorem dX4_init_19 : decode cX4_init 19 = .ok (.return_, 1) := by decide +kernel
theorem dX4_size_0 : decode cX4_size 0 = .ok (.aload_n 0, 1) := by decide +kernel
theorem dX4_size_1 : decode cX4_size 1 = .ok (.getfield 17, 3) := by decide +kernel
theorem dX4_size_4 : decode cX4_size 4 = .ok (.aload_n 0, 1) := by decide +kernel
theorem dX4_size_5 : decode cX4_size 5 = .ok (.getfield 13, 3) := by decide +kernel
theorem dX4_size_8 : decode cX4_size 8 = .ok (.isub, 1) := by decide +kernel
theorem dX4_size_9 : decode cX4_size 9 = .ok (.ireturn, 1) := by decide +kernel
theorem dX4_at_0 : decode cX4_at 0 = .ok (.aload_n 0, 1) := by decide +kernel
theorem dX4_at_1 : decode cX4_at 1 = .ok (.getfield 7, 3) := by decide +kernel
theorem dX4_at_4 : decode cX4_at 4 = .ok (.aload_n 0, 1) := by decide +kernel
theorem dX4_at_5 : decode cX4_at 5 = .ok (.getfield 13, 3) := by decide +kernel
theorem dX4_at_8 : decode cX4_at 8 = .ok (.iload_n 1, 1) := by decide +kernel
theorem dX4_at_9 : decode cX4_at 9 = .ok (.iadd, 1) := by decide +kernel
theorem dX4_at_10 : decode cX4_at 10 = .ok (.laload, 1) := by decide +kernel
theorem dX4_at_11 : decode cX4_at 11 = .ok (.lreturn, 1) := by decide +kernel
theorem dX4_changedBy_0 : decode cX4_changedBy 0 = .ok (.aload_n 0, 1) := by decide +kernel
theorem dX4_changedBy_1 : decode cX4_changedBy 1 = .ok (.invokevirtual 20, 3) := by decide +kernel
theorem dX4_changedBy_4 : decode cX4_changedBy 4 = .ok (.newarray .long, 2) := by decide +kernel
theorem dX4_changedBy_6 : decode cX4_changedBy 6 = .ok (.astore_n 3, 1) := by decide +kernel
theorem dX4_changedBy_7 : decode cX4_changedBy 7 = .ok (.iconst 0, 1) := by decide +kernel
theorem dX4_changedBy_8 : decode cX4_changedBy 8 = .ok (.istore 4, 2) := by decide +kernel
theorem dX4_changedBy_10 : decode cX4_changedBy 10 = .ok (.iload 4, 2) := by decide +kernel
theorem dX4_changedBy_12 : decode cX4_changedBy 12 = .ok (.aload_n 3, 1) := by decide +kernel
theorem dX4_changedBy_13 : decode cX4_changedBy 13 = .ok (.arraylength, 1) := by decide +kernel
theorem dX4_changedBy_14 : decode cX4_changedBy 14 = .ok (.if_icmp .ge 24, 3) := by decide +kernel
theorem dX4_changedBy_17 : decode cX4_changedBy 17 = .ok (.aload_n 3, 1) := by decide +kernel
theorem dX4_changedBy_18 : decode cX4_changedBy 18 = .ok (.iload 4, 2) := by decide +kernel
theorem dX4_changedBy_20 : decode cX4_changedBy 20 = .ok (.iload_n 1, 1) := by decide +kernel
theorem dX4_changedBy_21 : decode cX4_changedBy 21 = .ok (.iload_n 2, 1) := by decide +kernel
theorem dX4_changedBy_22 : decode cX4_changedBy 22 = .ok (.aload_n 0, 1) := by decide +kernel
theorem dX4_changedBy_23 : decode cX4_changedBy 23 = .ok (.iload 4, 2) := by decide +kernel
theorem dX4_changedBy_25 : decode cX4_changedBy 25 = .ok (.invokevirtual 24, 3) := by decide +kernel
theorem dX4_changedBy_28 : decode cX4_changedBy 28 = .ok (.invokestatic 28, 3) := by decide +kernel
theorem dX4_changedBy_31 : decode cX4_changedBy 31 = .ok (.lastore, 1) := by decide +kernel
theorem dX4_changedBy_32 : decode cX4_changedBy 32 = .ok (.iinc 4 1, 3) := by decide +kernel
theorem dX4_changedBy_35 : decode cX4_changedBy 35 = .ok (.goto (-25), 3) := by decide +kernel
theorem dX4_changedBy_38 : decode cX4_changedBy 38 = .ok (.new 8, 3) := by decide +kernel
theorem dX4_changedBy_41 : decode cX4_changedBy 41 = .ok (.dup, 1) := by decide +kernel
theorem dX4_changedBy_42 : decode cX4_changedBy 42 = .ok (.aload_n 3, 1) := by decide +kernel
theorem dX4_changedBy_43 : decode cX4_changedBy 43 = .ok (.iconst 0, 1) := by decide +kernel
theorem dX4_changedBy_44 : decode cX4_changedBy 44 = .ok (.aload_n 3, 1) := by decide +kernel
theorem dX4_changedBy_45 : decode cX4_changedBy 45 = .ok (.arraylength, 1) := by decide +kernel
theorem dX4_changedBy_46 : decode cX4_changedBy 46 = .ok (.invokespecial 34, 3) := by decide +kernel
theorem dX4_changedBy_49 : decode cX4_changedBy 49 = .ok (.areturn, 1) := by decide +kernel
theorem dX5_holds_0 : decode cX5_holds 0 = .ok (.iload_n 0, 1) := by decide +kernel
theorem dX5_holds_1 : decode cX5_holds 1 = .ok (.bipush 116, 2) := by decide +kernel
theorem dX5_holds_3 : decode cX5_holds 3 = .ok (.aload_n 1, 1) := by decide +kernel
theorem dX5_holds_4 : decode cX5_holds 4 = .ok (.invokestatic 9, 3) := by decide +kernel
theorem dX5_holds_7 : decode cX5_holds 7 = .ok (.astore_n 2, 1) := by decide +kernel
theorem dX5_holds_8 : decode cX5_holds 8 = .ok (.iload_n 0, 1) := by decide +kernel
theorem dX5_holds_9 : decode cX5_holds 9 = .ok (.iconst 3, 1) := by decide +kernel
theorem dX5_holds_10 : decode cX5_holds 10 = .ok (.if_icmp .ne 7, 3) := by decide +kernel
theorem dX5_holds_13 : decode cX5_holds 13 = .ok (.aload_n 2, 1) := by decide +kernel
theorem dX5_holds_14 : decode cX5_holds 14 = .ok (.goto 10, 3) := by decide +kernel
theorem dX5_holds_17 : decode cX5_holds 17 = .ok (.iload_n 0, 1) := by decide +kernel
theorem dX5_holds_18 : decode cX5_holds 18 = .ok (.bipush 117, 2) := by decide +kernel
theorem dX5_holds_20 : decode cX5_holds 20 = .ok (.aload_n 1, 1) := by decide +kernel
theorem dX5_holds_21 : decode cX5_holds 21 = .ok (.invokestatic 9, 3) := by decide +kernel
theorem dX5_holds_24 : decode cX5_holds 24 = .ok (.astore_n 3, 1) := by decide +kernel
theorem dX5_holds_25 : decode cX5_holds 25 = .ok (.iconst 0, 1) := by decide +kernel
theorem dX5_holds_26 : decode cX5_holds 26 = .ok (.istore 4, 2) := by decide +kernel
theorem dX5_holds_28 : decode cX5_holds 28 = .ok (.iload 4, 2) := by decide +kernel
theorem dX5_holds_30 : decode cX5_holds 30 = .ok (.aload_n 1, 1) := by decide +kernel
theorem dX5_holds_31 : decode cX5_holds 31 = .ok (.arraylength, 1) := by decide +kernel
theorem dX5_holds_32 : decode cX5_holds 32 = .ok (.if_icmp .ge 134, 3) := by decide +kernel
theorem dX5_holds_35 : decode cX5_holds 35 = .ok (.iconst 0, 1) := by decide +kernel
theorem dX5_holds_36 : decode cX5_holds 36 = .ok (.istore 5, 2) := by decide +kernel
theorem dX5_holds_38 : decode cX5_holds 38 = .ok (.iload 5, 2) := by decide +kernel
theorem dX5_holds_40 : decode cX5_holds 40 = .ok (.aload_n 1, 1) := by decide +kernel
theorem dX5_holds_41 : decode cX5_holds 41 = .ok (.arraylength, 1) := by decide +kernel
theorem dX5_holds_42 : decode cX5_holds 42 = .ok (.if_icmp .ge 118, 3) := by decide +kernel
theorem dX5_holds_45 : decode cX5_holds 45 = .ok (.iload 4, 2) := by decide +kernel
theorem dX5_holds_47 : decode cX5_holds 47 = .ok (.iload 5, 2) := by decide +kernel
theorem dX5_holds_49 : decode cX5_holds 49 = .ok (.if_icmp .eq 91, 3) := by decide +kernel
theorem dX5_holds_52 : decode cX5_holds 52 = .ok (.aload_n 1, 1) := by decide +kernel
theorem dX5_holds_53 : decode cX5_holds 53 = .ok (.iload 4, 2) := by decide +kernel
theorem dX5_holds_55 : decode cX5_holds 55 = .ok (.aaload, 1) := by decide +kernel
theorem dX5_holds_56 : decode cX5_holds 56 = .ok (.aload_n 1, 1) := by decide +kernel
theorem dX5_holds_57 : decode cX5_holds 57 = .ok (.iload 5, 2) := by decide +kernel
theorem dX5_holds_59 : decode cX5_holds 59 = .ok (.aaload, 1) := by decide +kernel
theorem dX5_holds_60 : decode cX5_holds 60 = .ok (.invokestatic 15, 3) := by decide +kernel
theorem dX5_holds_63 : decode cX5_holds 63 = .ok (.ifCond .eq 81, 3) := by decide +kernel
theorem dX5_holds_66 : decode cX5_holds 66 = .ok (.aload_n 1, 1) := by decide +kernel
theorem dX5_holds_67 : decode cX5_holds 67 = .ok (.iload 4, 2) := by decide +kernel
theorem dX5_holds_69 : decode cX5_holds 69 = .ok (.aaload, 1) := by decide +kernel
theorem dX5_holds_70 : decode cX5_holds 70 = .ok (.aload_n 1, 1) := by decide +kernel
theorem dX5_holds_71 : decode cX5_holds 71 = .ok (.iload 5, 2) := by decide +kernel
theorem dX5_holds_73 : decode cX5_holds 73 = .ok (.aaload, 1) := by decide +kernel
theorem dX5_holds_74 : decode cX5_holds 74 = .ok (.iconst 0, 1) := by decide +kernel
theorem dX5_holds_75 : decode cX5_holds 75 = .ok (.invokestatic 19, 3) := by decide +kernel
theorem dX5_holds_78 : decode cX5_holds 78 = .ok (.ifCond .eq 66, 3) := by decide +kernel
theorem dX5_holds_81 : decode cX5_holds 81 = .ok (.aload_n 1, 1) := by decide +kernel
theorem dX5_holds_82 : decode cX5_holds 82 = .ok (.iload 4, 2) := by decide +kernel
theorem dX5_holds_84 : decode cX5_holds 84 = .ok (.aaload, 1) := by decide +kernel
theorem dX5_holds_85 : decode cX5_holds 85 = .ok (.aload_n 1, 1) := by decide +kernel
theorem dX5_holds_86 : decode cX5_holds 86 = .ok (.iload 5, 2) := by decide +kernel
theorem dX5_holds_88 : decode cX5_holds 88 = .ok (.aaload, 1) := by decide +kernel
theorem dX5_holds_89 : decode cX5_holds 89 = .ok (.iconst 1, 1) := by decide +kernel
theorem dX5_holds_90 : decode cX5_holds 90 = .ok (.invokestatic 19, 3) := by decide +kernel
theorem dX5_holds_93 : decode cX5_holds 93 = .ok (.ifCond .eq 51, 3) := by decide +kernel
theorem dX5_holds_96 : decode cX5_holds 96 = .ok (.aload_n 1, 1) := by decide +kernel
theorem dX5_holds_97 : decode cX5_holds 97 = .ok (.iload 4, 2) := by decide +kernel
theorem dX5_holds_99 : decode cX5_holds 99 = .ok (.aaload, 1) := by decide +kernel
theorem dX5_holds_100 : decode cX5_holds 100 = .ok (.aload_n 1, 1) := by decide +kernel
theorem dX5_holds_101 : decode cX5_holds 101 = .ok (.iload 5, 2) := by decide +kernel
theorem dX5_holds_103 : decode cX5_holds 103 = .ok (.aaload, 1) := by decide +kernel
theorem dX5_holds_104 : decode cX5_holds 104 = .ok (.aload_n 2, 1) := by decide +kernel
theorem dX5_holds_105 : decode cX5_holds 105 = .ok (.iload 4, 2) := by decide +kernel
theorem dX5_holds_107 : decode cX5_holds 107 = .ok (.aaload, 1) := by decide +kernel
theorem dX5_holds_108 : decode cX5_holds 108 = .ok (.aload_n 2, 1) := by decide +kernel
theorem dX5_holds_109 : decode cX5_holds 109 = .ok (.iload 5, 2) := by decide +kernel
theorem dX5_holds_111 : decode cX5_holds 111 = .ok (.aaload, 1) := by decide +kernel
theorem dX5_holds_112 : decode cX5_holds 112 = .ok (.invokestatic 23, 3) := by decide +kernel
theorem dX5_holds_115 : decode cX5_holds 115 = .ok (.ifCond .eq 29, 3) := by decide +kernel
theorem dX5_holds_118 : decode cX5_holds 118 = .ok (.aload_n 1, 1) := by decide +kernel
theorem dX5_holds_119 : decode cX5_holds 119 = .ok (.iload 4, 2) := by decide +kernel
theorem dX5_holds_121 : decode cX5_holds 121 = .ok (.aaload, 1) := by decide +kernel
theorem dX5_holds_122 : decode cX5_holds 122 = .ok (.aload_n 1, 1) := by decide +kernel
theorem dX5_holds_123 : decode cX5_holds 123 = .ok (.iload 5, 2) := by decide +kernel
theorem dX5_holds_125 : decode cX5_holds 125 = .ok (.aaload, 1) := by decide +kernel
theorem dX5_holds_126 : decode cX5_holds 126 = .ok (.aload_n 3, 1) := by decide +kernel
theorem dX5_holds_127 : decode cX5_holds 127 = .ok (.iload 4, 2) := by decide +kernel
theorem dX5_holds_129 : decode cX5_holds 129 = .ok (.aaload, 1) := by decide +kernel
theorem dX5_holds_130 : decode cX5_holds 130 = .ok (.aload_n 3, 1) := by decide +kernel
theorem dX5_holds_131 : decode cX5_holds 131 = .ok (.iload 5, 2) := by decide +kernel
theorem dX5_holds_133 : decode cX5_holds 133 = .ok (.aaload, 1) := by decide +kernel
theorem dX5_holds_134 : decode cX5_holds 134 = .ok (.invokestatic 23, 3) := by decide +kernel
theorem dX5_holds_137 : decode cX5_holds 137 = .ok (.ifCond .eq 7, 3) := by decide +kernel
theorem dX5_holds_140 : decode cX5_holds 140 = .ok (.iconst 1, 1) := by decide +kernel
theorem dX5_holds_141 : decode cX5_holds 141 = .ok (.goto 4, 3) := by decide +kernel
theorem dX5_holds_144 : decode cX5_holds 144 = .ok (.iconst 0, 1) := by decide +kernel
theorem dX5_holds_145 : decode cX5_holds 145 = .ok (.istore 6, 2) := by decide +kernel
theorem dX5_holds_147 : decode cX5_holds 147 = .ok (.iload 6, 2) := by decide +kernel
theorem dX5_holds_149 : decode cX5_holds 149 = .ok (.ifCond .ne 5, 3) := by decide +kernel
theorem dX5_holds_152 : decode cX5_holds 152 = .ok (.iconst 0, 1) := by decide +kernel
theorem dX5_holds_153 : decode cX5_holds 153 = .ok (.ireturn, 1) := by decide +kernel
theorem dX5_holds_154 : decode cX5_holds 154 = .ok (.iinc 5 1, 3) := by decide +kernel
theorem dX5_holds_157 : decode cX5_holds 157 = .ok (.goto (-119), 3) := by decide +kernel
theorem dX5_holds_160 : decode cX5_holds 160 = .ok (.iinc 4 1, 3) := by decide +kernel
theorem dX5_holds_163 : decode cX5_holds 163 = .ok (.goto (-135), 3) := by decide +kernel
theorem dX5_holds_166 : decode cX5_holds 166 = .ok (.aload_n 1, 1) := by decide +kernel
theorem dX5_holds_167 : decode cX5_holds 167 = .ok (.iconst 0, 1) := by decide +kernel
theorem dX5_holds_168 : decode cX5_holds 168 = .ok (.invokestatic 27, 3) := by decide +kernel
theorem dX5_holds_171 : decode cX5_holds 171 = .ok (.ifCond .eq 15, 3) := by decide +kernel
theorem dX5_holds_174 : decode cX5_holds 174 = .ok (.aload_n 1, 1) := by decide +kernel
theorem dX5_holds_175 : decode cX5_holds 175 = .ok (.iconst 1, 1) := by decide +kernel
theorem dX5_holds_176 : decode cX5_holds 176 = .ok (.invokestatic 27, 3) := by decide +kernel
theorem dX5_holds_179 : decode cX5_holds 179 = .ok (.ifCond .eq 7, 3) := by decide +kernel
theorem dX5_holds_182 : decode cX5_holds 182 = .ok (.iconst 1, 1) := by decide +kernel
theorem dX5_holds_183 : decode cX5_holds 183 = .ok (.goto 4, 3) := by decide +kernel
theorem dX5_holds_186 : decode cX5_holds 186 = .ok (.iconst 0, 1) := by decide +kernel
theorem dX5_holds_187 : decode cX5_holds 187 = .ok (.ireturn, 1) := by decide +kernel
theorem dX5_changedWords_0 : decode cX5_changedWords 0 = .ok (.aload_n 2, 1) := by decide +kernel
theorem dX5_changedWords_1 : decode cX5_changedWords 1 = .ok (.arraylength, 1) := by decide +kernel
theorem dX5_changedWords_2 : decode cX5_changedWords 2 = .ok (.anewarray 31, 3) := by decide +kernel
theorem dX5_changedWords_5 : decode cX5_changedWords 5 = .ok (.astore_n 3, 1) := by decide +kernel
theorem dX5_changedWords_6 : decode cX5_changedWords 6 = .ok (.iconst 0, 1) := by decide +kernel
theorem dX5_changedWords_7 : decode cX5_changedWords 7 = .ok (.istore 4, 2) := by decide +kernel
theorem dX5_changedWords_9 : decode cX5_changedWords 9 = .ok (.iload 4, 2) := by decide +kernel
theorem dX5_changedWords_11 : decode cX5_changedWords 11 = .ok (.aload_n 2, 1) := by decide +kernel
theorem dX5_changedWords_12 : decode cX5_changedWords 12 = .ok (.arraylength, 1) := by decide +kernel
theorem dX5_changedWords_13 : decode cX5_changedWords 13 = .ok (.if_icmp .ge 22, 3) := by decide +kernel
theorem dX5_changedWords_16 : decode cX5_changedWords 16 = .ok (.aload_n 3, 1) := by decide +kernel
theorem dX5_changedWords_17 : decode cX5_changedWords 17 = .ok (.iload 4, 2) := by decide +kernel
theorem dX5_changedWords_19 : decode cX5_changedWords 19 = .ok (.aload_n 2, 1) := by decide +kernel
theorem dX5_changedWords_20 : decode cX5_changedWords 20 = .ok (.iload 4, 2) := by decide +kernel
theorem dX5_changedWords_22 : decode cX5_changedWords 22 = .ok (.aaload, 1) := by decide +kernel
theorem dX5_changedWords_23 : decode cX5_changedWords 23 = .ok (.iload_n 0, 1) := by decide +kernel
theorem dX5_changedWords_24 : decode cX5_changedWords 24 = .ok (.iload_n 1, 1) := by decide +kernel
theorem dX5_changedWords_25 : decode cX5_changedWords 25 = .ok (.invokevirtual 33, 3) := by decide +kernel
theorem dX5_changedWords_28 : decode cX5_changedWords 28 = .ok (.aastore, 1) := by decide +kernel
theorem dX5_changedWords_29 : decode cX5_changedWords 29 = .ok (.iinc 4 1, 3) := by decide +kernel
theorem dX5_changedWords_32 : decode cX5_changedWords 32 = .ok (.goto (-23), 3) := by decide +kernel
theorem dX5_changedWords_35 : decode cX5_changedWords 35 = .ok (.aload_n 3, 1) := by decide +kernel
theorem dX5_changedWords_36 : decode cX5_changedWords 36 = .ok (.areturn, 1) := by decide +kernel
theorem dX5_alikeIsTrue_0 : decode cX5_alikeIsTrue 0 = .ok (.aload_n 0, 1) := by decide +kernel
theorem dX5_alikeIsTrue_1 : decode cX5_alikeIsTrue 1 = .ok (.aload_n 1, 1) := by decide +kernel
theorem dX5_alikeIsTrue_2 : decode cX5_alikeIsTrue 2 = .ok (.invokestatic 37, 3) := by decide +kernel
theorem dX5_alikeIsTrue_5 : decode cX5_alikeIsTrue 5 = .ok (.istore_n 2, 1) := by decide +kernel
theorem dX5_alikeIsTrue_6 : decode cX5_alikeIsTrue 6 = .ok (.iload_n 2, 1) := by decide +kernel
theorem dX5_alikeIsTrue_7 : decode cX5_alikeIsTrue 7 = .ok (.iconst (-1), 1) := by decide +kernel
theorem dX5_alikeIsTrue_8 : decode cX5_alikeIsTrue 8 = .ok (.if_icmp .ne 7, 3) := by decide +kernel
theorem dX5_alikeIsTrue_11 : decode cX5_alikeIsTrue 11 = .ok (.iconst 1, 1) := by decide +kernel
theorem dX5_alikeIsTrue_12 : decode cX5_alikeIsTrue 12 = .ok (.goto 4, 3) := by decide +kernel
theorem dX5_alikeIsTrue_15 : decode cX5_alikeIsTrue 15 = .ok (.iconst 0, 1) := by decide +kernel
theorem dX5_alikeIsTrue_16 : decode cX5_alikeIsTrue 16 = .ok (.istore_n 3, 1) := by decide +kernel
theorem dX5_alikeIsTrue_17 : decode cX5_alikeIsTrue 17 = .ok (.iload_n 3, 1) := by decide +kernel
theorem dX5_alikeIsTrue_18 : decode cX5_alikeIsTrue 18 = .ok (.ifCond .eq 10, 3) := by decide +kernel
theorem dX5_alikeIsTrue_21 : decode cX5_alikeIsTrue 21 = .ok (.aload_n 0, 1) := by decide +kernel
theorem dX5_alikeIsTrue_22 : decode cX5_alikeIsTrue 22 = .ok (.invokevirtual 41, 3) := by decide +kernel
theorem dX5_alikeIsTrue_25 : decode cX5_alikeIsTrue 25 = .ok (.goto 4, 3) := by decide +kernel
theorem dX5_alikeIsTrue_28 : decode cX5_alikeIsTrue 28 = .ok (.iload_n 2, 1) := by decide +kernel
theorem dX5_alikeIsTrue_29 : decode cX5_alikeIsTrue 29 = .ok (.istore 4, 2) := by decide +kernel
theorem dX5_alikeIsTrue_31 : decode cX5_alikeIsTrue 31 = .ok (.iload 4, 2) := by decide +kernel
theorem dX5_alikeIsTrue_33 : decode cX5_alikeIsTrue 33 = .ok (.ifCond .lt 21, 3) := by decide +kernel
theorem dX5_alikeIsTrue_36 : decode cX5_alikeIsTrue 36 = .ok (.iload 4, 2) := by decide +kernel
theorem dX5_alikeIsTrue_38 : decode cX5_alikeIsTrue 38 = .ok (.aload_n 0, 1) := by decide +kernel
theorem dX5_alikeIsTrue_39 : decode cX5_alikeIsTrue 39 = .ok (.invokevirtual 41, 3) := by decide +kernel
theorem dX5_alikeIsTrue_42 : decode cX5_alikeIsTrue 42 = .ok (.if_icmp .gt 12, 3) := by decide +kernel
theorem dX5_alikeIsTrue_45 : decode cX5_alikeIsTrue 45 = .ok (.iload 4, 2) := by decide +kernel
theorem dX5_alikeIsTrue_47 : decode cX5_alikeIsTrue 47 = .ok (.aload_n 1, 1) := by decide +kernel
theorem dX5_alikeIsTrue_48 : decode cX5_alikeIsTrue 48 = .ok (.invokevirtual 41, 3) := by decide +kernel
theorem dX5_alikeIsTrue_51 : decode cX5_alikeIsTrue 51 = .ok (.if_icmp .le 5, 3) := by decide +kernel
theorem dX5_alikeIsTrue_54 : decode cX5_alikeIsTrue 54 = .ok (.iconst 0, 1) := by decide +kernel
theorem dX5_alikeIsTrue_55 : decode cX5_alikeIsTrue 55 = .ok (.ireturn, 1) := by decide +kernel
theorem dX5_alikeIsTrue_56 : decode cX5_alikeIsTrue 56 = .ok (.iconst 0, 1) := by decide +kernel
theorem dX5_alikeIsTrue_57 : decode cX5_alikeIsTrue 57 = .ok (.istore 5, 2) := by decide +kernel
theorem dX5_alikeIsTrue_59 : decode cX5_alikeIsTrue 59 = .ok (.iload 5, 2) := by decide +kernel
theorem dX5_alikeIsTrue_61 : decode cX5_alikeIsTrue 61 = .ok (.iload 4, 2) := by decide +kernel
theorem dX5_alikeIsTrue_63 : decode cX5_alikeIsTrue 63 = .ok (.if_icmp .ge 27, 3) := by decide +kernel
theorem dX5_alikeIsTrue_66 : decode cX5_alikeIsTrue 66 = .ok (.aload_n 0, 1) := by decide +kernel
theorem dX5_alikeIsTrue_67 : decode cX5_alikeIsTrue 67 = .ok (.iload 5, 2) := by decide +kernel
theorem dX5_alikeIsTrue_69 : decode cX5_alikeIsTrue 69 = .ok (.invokevirtual 45, 3) := by decide +kernel
theorem dX5_alikeIsTrue_72 : decode cX5_alikeIsTrue 72 = .ok (.aload_n 1, 1) := by decide +kernel
theorem dX5_alikeIsTrue_73 : decode cX5_alikeIsTrue 73 = .ok (.iload 5, 2) := by decide +kernel
theorem dX5_alikeIsTrue_75 : decode cX5_alikeIsTrue 75 = .ok (.invokevirtual 45, 3) := by decide +kernel
theorem dX5_alikeIsTrue_78 : decode cX5_alikeIsTrue 78 = .ok (.lcmp, 1) := by decide +kernel
theorem dX5_alikeIsTrue_79 : decode cX5_alikeIsTrue 79 = .ok (.ifCond .eq 5, 3) := by decide +kernel
theorem dX5_alikeIsTrue_82 : decode cX5_alikeIsTrue 82 = .ok (.iconst 0, 1) := by decide +kernel
theorem dX5_alikeIsTrue_83 : decode cX5_alikeIsTrue 83 = .ok (.ireturn, 1) := by decide +kernel
theorem dX5_alikeIsTrue_84 : decode cX5_alikeIsTrue 84 = .ok (.iinc 5 1, 3) := by decide +kernel
theorem dX5_alikeIsTrue_87 : decode cX5_alikeIsTrue 87 = .ok (.goto (-28), 3) := by decide +kernel
theorem dX5_alikeIsTrue_90 : decode cX5_alikeIsTrue 90 = .ok (.iload 4, 2) := by decide +kernel
theorem dX5_alikeIsTrue_92 : decode cX5_alikeIsTrue 92 = .ok (.aload_n 0, 1) := by decide +kernel
theorem dX5_alikeIsTrue_93 : decode cX5_alikeIsTrue 93 = .ok (.invokevirtual 41, 3) := by decide +kernel
theorem dX5_alikeIsTrue_96 : decode cX5_alikeIsTrue 96 = .ok (.if_icmp .ge 16, 3) := by decide +kernel
theorem dX5_alikeIsTrue_99 : decode cX5_alikeIsTrue 99 = .ok (.iload 4, 2) := by decide +kernel
theorem dX5_alikeIsTrue_101 : decode cX5_alikeIsTrue 101 = .ok (.aload_n 1, 1) := by decide +kernel
theorem dX5_alikeIsTrue_102 : decode cX5_alikeIsTrue 102 = .ok (.invokevirtual 41, 3) := by decide +kernel
theorem dX5_alikeIsTrue_105 : decode cX5_alikeIsTrue 105 = .ok (.if_icmp .ge 7, 3) := by decide +kernel
theorem dX5_alikeIsTrue_108 : decode cX5_alikeIsTrue 108 = .ok (.iconst 1, 1) := by decide +kernel
theorem dX5_alikeIsTrue_109 : decode cX5_alikeIsTrue 109 = .ok (.goto 4, 3) := by decide +kernel
theorem dX5_alikeIsTrue_112 : decode cX5_alikeIsTrue 112 = .ok (.iconst 0, 1) := by decide +kernel
theorem dX5_alikeIsTrue_113 : decode cX5_alikeIsTrue 113 = .ok (.istore 5, 2) := by decide +kernel
theorem dX5_alikeIsTrue_115 : decode cX5_alikeIsTrue 115 = .ok (.iload 4, 2) := by decide +kernel
theorem dX5_alikeIsTrue_117 : decode cX5_alikeIsTrue 117 = .ok (.aload_n 0, 1) := by decide +kernel
theorem dX5_alikeIsTrue_118 : decode cX5_alikeIsTrue 118 = .ok (.invokevirtual 41, 3) := by decide +kernel
theorem dX5_alikeIsTrue_121 : decode cX5_alikeIsTrue 121 = .ok (.if_icmp .ne 16, 3) := by decide +kernel
theorem dX5_alikeIsTrue_124 : decode cX5_alikeIsTrue 124 = .ok (.iload 4, 2) := by decide +kernel
theorem dX5_alikeIsTrue_126 : decode cX5_alikeIsTrue 126 = .ok (.aload_n 1, 1) := by decide +kernel
theorem dX5_alikeIsTrue_127 : decode cX5_alikeIsTrue 127 = .ok (.invokevirtual 41, 3) := by decide +kernel
theorem dX5_alikeIsTrue_130 : decode cX5_alikeIsTrue 130 = .ok (.if_icmp .ne 7, 3) := by decide +kernel
theorem dX5_alikeIsTrue_133 : decode cX5_alikeIsTrue 133 = .ok (.iconst 1, 1) := by decide +kernel
theorem dX5_alikeIsTrue_134 : decode cX5_alikeIsTrue 134 = .ok (.goto 4, 3) := by decide +kernel
theorem dX5_alikeIsTrue_137 : decode cX5_alikeIsTrue 137 = .ok (.iconst 0, 1) := by decide +kernel
theorem dX5_alikeIsTrue_138 : decode cX5_alikeIsTrue 138 = .ok (.istore 6, 2) := by decide +kernel
theorem dX5_alikeIsTrue_140 : decode cX5_alikeIsTrue 140 = .ok (.iload 5, 2) := by decide +kernel
theorem dX5_alikeIsTrue_142 : decode cX5_alikeIsTrue 142 = .ok (.ifCond .eq 19, 3) := by decide +kernel
theorem dX5_alikeIsTrue_145 : decode cX5_alikeIsTrue 145 = .ok (.aload_n 0, 1) := by decide +kernel
theorem dX5_alikeIsTrue_146 : decode cX5_alikeIsTrue 146 = .ok (.iload 4, 2) := by decide +kernel
theorem dX5_alikeIsTrue_148 : decode cX5_alikeIsTrue 148 = .ok (.invokevirtual 45, 3) := by decide +kernel
theorem dX5_alikeIsTrue_151 : decode cX5_alikeIsTrue 151 = .ok (.aload_n 1, 1) := by decide +kernel
theorem dX5_alikeIsTrue_152 : decode cX5_alikeIsTrue 152 = .ok (.iload 4, 2) := by decide +kernel
theorem dX5_alikeIsTrue_154 : decode cX5_alikeIsTrue 154 = .ok (.invokevirtual 45, 3) := by decide +kernel
theorem dX5_alikeIsTrue_157 : decode cX5_alikeIsTrue 157 = .ok (.lcmp, 1) := by decide +kernel
theorem dX5_alikeIsTrue_158 : decode cX5_alikeIsTrue 158 = .ok (.ifCond .eq 58, 3) := by decide +kernel
theorem dX5_alikeIsTrue_161 : decode cX5_alikeIsTrue 161 = .ok (.iload_n 3, 1) := by decide +kernel
theorem dX5_alikeIsTrue_162 : decode cX5_alikeIsTrue 162 = .ok (.iload 6, 2) := by decide +kernel
theorem dX5_alikeIsTrue_164 : decode cX5_alikeIsTrue 164 = .ok (.if_icmp .ne 52, 3) := by decide +kernel
theorem dX5_alikeIsTrue_167 : decode cX5_alikeIsTrue 167 = .ok (.iload_n 3, 1) := by decide +kernel
theorem dX5_alikeIsTrue_168 : decode cX5_alikeIsTrue 168 = .ok (.aload_n 0, 1) := by decide +kernel
theorem dX5_alikeIsTrue_169 : decode cX5_alikeIsTrue 169 = .ok (.aload_n 1, 1) := by decide +kernel
theorem dX5_alikeIsTrue_170 : decode cX5_alikeIsTrue 170 = .ok (.invokestatic 49, 3) := by decide +kernel
theorem dX5_alikeIsTrue_173 : decode cX5_alikeIsTrue 173 = .ok (.if_icmp .ne 43, 3) := by decide +kernel
theorem dX5_alikeIsTrue_176 : decode cX5_alikeIsTrue 176 = .ok (.iload_n 3, 1) := by decide +kernel
theorem dX5_alikeIsTrue_177 : decode cX5_alikeIsTrue 177 = .ok (.aload_n 0, 1) := by decide +kernel
theorem dX5_alikeIsTrue_178 : decode cX5_alikeIsTrue 178 = .ok (.aload_n 1, 1) := by decide +kernel
theorem dX5_alikeIsTrue_179 : decode cX5_alikeIsTrue 179 = .ok (.iconst 0, 1) := by decide +kernel
theorem dX5_alikeIsTrue_180 : decode cX5_alikeIsTrue 180 = .ok (.invokestatic 52, 3) := by decide +kernel
theorem dX5_alikeIsTrue_183 : decode cX5_alikeIsTrue 183 = .ok (.ifCond .ne 7, 3) := by decide +kernel
theorem dX5_alikeIsTrue_186 : decode cX5_alikeIsTrue 186 = .ok (.iconst 1, 1) := by decide +kernel
theorem dX5_alikeIsTrue_187 : decode cX5_alikeIsTrue 187 = .ok (.goto 4, 3) := by decide +kernel
theorem dX5_alikeIsTrue_190 : decode cX5_alikeIsTrue 190 = .ok (.iconst 0, 1) := by decide +kernel
theorem dX5_alikeIsTrue_191 : decode cX5_alikeIsTrue 191 = .ok (.if_icmp .ne 25, 3) := by decide +kernel
theorem dX5_alikeIsTrue_194 : decode cX5_alikeIsTrue 194 = .ok (.iload_n 3, 1) := by decide +kernel
theorem dX5_alikeIsTrue_195 : decode cX5_alikeIsTrue 195 = .ok (.aload_n 0, 1) := by decide +kernel
theorem dX5_alikeIsTrue_196 : decode cX5_alikeIsTrue 196 = .ok (.aload_n 1, 1) := by decide +kernel
theorem dX5_alikeIsTrue_197 : decode cX5_alikeIsTrue 197 = .ok (.iconst 1, 1) := by decide +kernel
theorem dX5_alikeIsTrue_198 : decode cX5_alikeIsTrue 198 = .ok (.invokestatic 52, 3) := by decide +kernel
theorem dX5_alikeIsTrue_201 : decode cX5_alikeIsTrue 201 = .ok (.ifCond .ne 7, 3) := by decide +kernel
theorem dX5_alikeIsTrue_204 : decode cX5_alikeIsTrue 204 = .ok (.iconst 1, 1) := by decide +kernel
theorem dX5_alikeIsTrue_205 : decode cX5_alikeIsTrue 205 = .ok (.goto 4, 3) := by decide +kernel
theorem dX5_alikeIsTrue_208 : decode cX5_alikeIsTrue 208 = .ok (.iconst 0, 1) := by decide +kernel
theorem dX5_alikeIsTrue_209 : decode cX5_alikeIsTrue 209 = .ok (.if_icmp .ne 7, 3) := by decide +kernel
theorem dX5_alikeIsTrue_212 : decode cX5_alikeIsTrue 212 = .ok (.iconst 1, 1) := by decide +kernel
theorem dX5_alikeIsTrue_213 : decode cX5_alikeIsTrue 213 = .ok (.goto 4, 3) := by decide +kernel
theorem dX5_alikeIsTrue_216 : decode cX5_alikeIsTrue 216 = .ok (.iconst 0, 1) := by decide +kernel
theorem dX5_alikeIsTrue_217 : decode cX5_alikeIsTrue 217 = .ok (.ireturn, 1) := by decide +kernel
theorem dX5_orderIsTrue_0 : decode cX5_orderIsTrue 0 = .ok (.aload_n 0, 1) := by decide +kernel
theorem dX5_orderIsTrue_1 : decode cX5_orderIsTrue 1 = .ok (.aload_n 1, 1) := by decide +kernel
theorem dX5_orderIsTrue_2 : decode cX5_orderIsTrue 2 = .ok (.iload_n 2, 1) := by decide +kernel
theorem dX5_orderIsTrue_3 : decode cX5_orderIsTrue 3 = .ok (.invokestatic 52, 3) := by decide +kernel
theorem dX5_orderIsTrue_6 : decode cX5_orderIsTrue 6 = .ok (.istore_n 3, 1) := by decide +kernel
theorem dX5_orderIsTrue_7 : decode cX5_orderIsTrue 7 = .ok (.aload_n 0, 1) := by decide +kernel
theorem dX5_orderIsTrue_8 : decode cX5_orderIsTrue 8 = .ok (.aload_n 1, 1) := by decide +kernel
theorem dX5_orderIsTrue_9 : decode cX5_orderIsTrue 9 = .ok (.invokestatic 56, 3) := by decide +kernel
theorem dX5_orderIsTrue_12 : decode cX5_orderIsTrue 12 = .ok (.istore 4, 2) := by decide +kernel
theorem dX5_orderIsTrue_14 : decode cX5_orderIsTrue 14 = .ok (.iload 4, 2) := by decide +kernel
theorem dX5_orderIsTrue_16 : decode cX5_orderIsTrue 16 = .ok (.aload_n 0, 1) := by decide +kernel
theorem dX5_orderIsTrue_17 : decode cX5_orderIsTrue 17 = .ok (.invokevirtual 41, 3) := by decide +kernel
theorem dX5_orderIsTrue_20 : decode cX5_orderIsTrue 20 = .ok (.if_icmp .ge 16, 3) := by decide +kernel
theorem dX5_orderIsTrue_23 : decode cX5_orderIsTrue 23 = .ok (.iload 4, 2) := by decide +kernel
theorem dX5_orderIsTrue_25 : decode cX5_orderIsTrue 25 = .ok (.aload_n 1, 1) := by decide +kernel
theorem dX5_orderIsTrue_26 : decode cX5_orderIsTrue 26 = .ok (.invokevirtual 41, 3) := by decide +kernel
theorem dX5_orderIsTrue_29 : decode cX5_orderIsTrue 29 = .ok (.if_icmp .ge 7, 3) := by decide +kernel
theorem dX5_orderIsTrue_32 : decode cX5_orderIsTrue 32 = .ok (.iconst 1, 1) := by decide +kernel
theorem dX5_orderIsTrue_33 : decode cX5_orderIsTrue 33 = .ok (.goto 4, 3) := by decide +kernel
theorem dX5_orderIsTrue_36 : decode cX5_orderIsTrue 36 = .ok (.iconst 0, 1) := by decide +kernel
theorem dX5_orderIsTrue_37 : decode cX5_orderIsTrue 37 = .ok (.istore 5, 2) := by decide +kernel
theorem dX5_orderIsTrue_39 : decode cX5_orderIsTrue 39 = .ok (.iload 5, 2) := by decide +kernel
theorem dX5_orderIsTrue_41 : decode cX5_orderIsTrue 41 = .ok (.ifCond .eq 22, 3) := by decide +kernel
theorem dX5_orderIsTrue_44 : decode cX5_orderIsTrue 44 = .ok (.aload_n 0, 1) := by decide +kernel
theorem dX5_orderIsTrue_45 : decode cX5_orderIsTrue 45 = .ok (.iload 4, 2) := by decide +kernel
theorem dX5_orderIsTrue_47 : decode cX5_orderIsTrue 47 = .ok (.invokevirtual 45, 3) := by decide +kernel
theorem dX5_orderIsTrue_50 : decode cX5_orderIsTrue 50 = .ok (.aload_n 1, 1) := by decide +kernel
theorem dX5_orderIsTrue_51 : decode cX5_orderIsTrue 51 = .ok (.iload 4, 2) := by decide +kernel
theorem dX5_orderIsTrue_53 : decode cX5_orderIsTrue 53 = .ok (.invokevirtual 45, 3) := by decide +kernel
theorem dX5_orderIsTrue_56 : decode cX5_orderIsTrue 56 = .ok (.iload_n 2, 1) := by decide +kernel
theorem dX5_orderIsTrue_57 : decode cX5_orderIsTrue 57 = .ok (.invokestatic 59, 3) := by decide +kernel
theorem dX5_orderIsTrue_60 : decode cX5_orderIsTrue 60 = .ok (.goto 17, 3) := by decide +kernel
theorem dX5_orderIsTrue_63 : decode cX5_orderIsTrue 63 = .ok (.aload_n 0, 1) := by decide +kernel
theorem dX5_orderIsTrue_64 : decode cX5_orderIsTrue 64 = .ok (.invokevirtual 41, 3) := by decide +kernel
theorem dX5_orderIsTrue_67 : decode cX5_orderIsTrue 67 = .ok (.i2l, 1) := by decide +kernel
theorem dX5_orderIsTrue_68 : decode cX5_orderIsTrue 68 = .ok (.aload_n 1, 1) := by decide +kernel
theorem dX5_orderIsTrue_69 : decode cX5_orderIsTrue 69 = .ok (.invokevirtual 41, 3) := by decide +kernel
theorem dX5_orderIsTrue_72 : decode cX5_orderIsTrue 72 = .ok (.i2l, 1) := by decide +kernel
theorem dX5_orderIsTrue_73 : decode cX5_orderIsTrue 73 = .ok (.iconst 0, 1) := by decide +kernel
theorem dX5_orderIsTrue_74 : decode cX5_orderIsTrue 74 = .ok (.invokestatic 59, 3) := by decide +kernel
theorem dX5_orderIsTrue_77 : decode cX5_orderIsTrue 77 = .ok (.istore 6, 2) := by decide +kernel
theorem dX5_orderIsTrue_79 : decode cX5_orderIsTrue 79 = .ok (.iload_n 3, 1) := by decide +kernel
theorem dX5_orderIsTrue_80 : decode cX5_orderIsTrue 80 = .ok (.iload 6, 2) := by decide +kernel
theorem dX5_orderIsTrue_82 : decode cX5_orderIsTrue 82 = .ok (.if_icmp .ne 18, 3) := by decide +kernel
theorem dX5_orderIsTrue_85 : decode cX5_orderIsTrue 85 = .ok (.aload_n 1, 1) := by decide +kernel
theorem dX5_orderIsTrue_86 : decode cX5_orderIsTrue 86 = .ok (.aload_n 0, 1) := by decide +kernel
theorem dX5_orderIsTrue_87 : decode cX5_orderIsTrue 87 = .ok (.iload_n 2, 1) := by decide +kernel
theorem dX5_orderIsTrue_88 : decode cX5_orderIsTrue 88 = .ok (.invokestatic 52, 3) := by decide +kernel
theorem dX5_orderIsTrue_91 : decode cX5_orderIsTrue 91 = .ok (.iload_n 3, 1) := by decide +kernel
theorem dX5_orderIsTrue_92 : decode cX5_orderIsTrue 92 = .ok (.ineg, 1) := by decide +kernel
theorem dX5_orderIsTrue_93 : decode cX5_orderIsTrue 93 = .ok (.if_icmp .ne 7, 3) := by decide +kernel
theorem dX5_orderIsTrue_96 : decode cX5_orderIsTrue 96 = .ok (.iconst 1, 1) := by decide +kernel
theorem dX5_orderIsTrue_97 : decode cX5_orderIsTrue 97 = .ok (.goto 4, 3) := by decide +kernel
theorem dX5_orderIsTrue_100 : decode cX5_orderIsTrue 100 = .ok (.iconst 0, 1) := by decide +kernel
theorem dX5_orderIsTrue_101 : decode cX5_orderIsTrue 101 = .ok (.ireturn, 1) := by decide +kernel
theorem dX5_isUnsignedOf_0 : decode cX5_isUnsignedOf 0 = .ok (.aload_n 0, 1) := by decide +kernel
theorem dX5_isUnsignedOf_1 : decode cX5_isUnsignedOf 1 = .ok (.aload_n 1, 1) := by decide +kernel
theorem dX5_isUnsignedOf_2 : decode cX5_isUnsignedOf 2 = .ok (.iconst 1, 1) := by decide +kernel
theorem dX5_isUnsignedOf_3 : decode cX5_isUnsignedOf 3 = .ok (.invokestatic 52, 3) := by decide +kernel
theorem dX5_isUnsignedOf_6 : decode cX5_isUnsignedOf 6 = .ok (.aload_n 2, 1) := by decide +kernel
theorem dX5_isUnsignedOf_7 : decode cX5_isUnsignedOf 7 = .ok (.aload_n 3, 1) := by decide +kernel
theorem dX5_isUnsignedOf_8 : decode cX5_isUnsignedOf 8 = .ok (.iconst 0, 1) := by decide +kernel
theorem dX5_isUnsignedOf_9 : decode cX5_isUnsignedOf 9 = .ok (.invokestatic 52, 3) := by decide +kernel
theorem dX5_isUnsignedOf_12 : decode cX5_isUnsignedOf 12 = .ok (.if_icmp .ne 7, 3) := by decide +kernel
theorem dX5_isUnsignedOf_15 : decode cX5_isUnsignedOf 15 = .ok (.iconst 1, 1) := by decide +kernel
theorem dX5_isUnsignedOf_16 : decode cX5_isUnsignedOf 16 = .ok (.goto 4, 3) := by decide +kernel
theorem dX5_isUnsignedOf_19 : decode cX5_isUnsignedOf 19 = .ok (.iconst 0, 1) := by decide +kernel
theorem dX5_isUnsignedOf_20 : decode cX5_isUnsignedOf 20 = .ok (.ireturn, 1) := by decide +kernel
theorem dX5_threeAreTrue_0 : decode cX5_threeAreTrue 0 = .ok (.iconst 0, 1) := by decide +kernel
theorem dX5_threeAreTrue_1 : decode cX5_threeAreTrue 1 = .ok (.istore_n 2, 1) := by decide +kernel
theorem dX5_threeAreTrue_2 : decode cX5_threeAreTrue 2 = .ok (.iload_n 2, 1) := by decide +kernel
theorem dX5_threeAreTrue_3 : decode cX5_threeAreTrue 3 = .ok (.aload_n 0, 1) := by decide +kernel
theorem dX5_threeAreTrue_4 : decode cX5_threeAreTrue 4 = .ok (.arraylength, 1) := by decide +kernel
theorem dX5_threeAreTrue_5 : decode cX5_threeAreTrue 5 = .ok (.if_icmp .ge 87, 3) := by decide +kernel
theorem dX5_threeAreTrue_8 : decode cX5_threeAreTrue 8 = .ok (.iconst 0, 1) := by decide +kernel
theorem dX5_threeAreTrue_9 : decode cX5_threeAreTrue 9 = .ok (.istore_n 3, 1) := by decide +kernel
theorem dX5_threeAreTrue_10 : decode cX5_threeAreTrue 10 = .ok (.iload_n 3, 1) := by decide +kernel
theorem dX5_threeAreTrue_11 : decode cX5_threeAreTrue 11 = .ok (.aload_n 0, 1) := by decide +kernel
theorem dX5_threeAreTrue_12 : decode cX5_threeAreTrue 12 = .ok (.arraylength, 1) := by decide +kernel
theorem dX5_threeAreTrue_13 : decode cX5_threeAreTrue 13 = .ok (.if_icmp .ge 73, 3) := by decide +kernel
theorem dX5_threeAreTrue_16 : decode cX5_threeAreTrue 16 = .ok (.iconst 0, 1) := by decide +kernel
theorem dX5_threeAreTrue_17 : decode cX5_threeAreTrue 17 = .ok (.istore 4, 2) := by decide +kernel
theorem dX5_threeAreTrue_19 : decode cX5_threeAreTrue 19 = .ok (.iload 4, 2) := by decide +kernel
theorem dX5_threeAreTrue_21 : decode cX5_threeAreTrue 21 = .ok (.aload_n 0, 1) := by decide +kernel
theorem dX5_threeAreTrue_22 : decode cX5_threeAreTrue 22 = .ok (.arraylength, 1) := by decide +kernel
theorem dX5_threeAreTrue_23 : decode cX5_threeAreTrue 23 = .ok (.if_icmp .ge 57, 3) := by decide +kernel
theorem dX5_threeAreTrue_26 : decode cX5_threeAreTrue 26 = .ok (.iload_n 2, 1) := by decide +kernel
theorem dX5_threeAreTrue_27 : decode cX5_threeAreTrue 27 = .ok (.iload_n 3, 1) := by decide +kernel
theorem dX5_threeAreTrue_28 : decode cX5_threeAreTrue 28 = .ok (.if_icmp .eq 19, 3) := by decide +kernel
theorem dX5_threeAreTrue_31 : decode cX5_threeAreTrue 31 = .ok (.iload_n 3, 1) := by decide +kernel
theorem dX5_threeAreTrue_32 : decode cX5_threeAreTrue 32 = .ok (.iload 4, 2) := by decide +kernel
theorem dX5_threeAreTrue_34 : decode cX5_threeAreTrue 34 = .ok (.if_icmp .eq 13, 3) := by decide +kernel
theorem dX5_threeAreTrue_37 : decode cX5_threeAreTrue 37 = .ok (.iload_n 2, 1) := by decide +kernel
theorem dX5_threeAreTrue_38 : decode cX5_threeAreTrue 38 = .ok (.iload 4, 2) := by decide +kernel
theorem dX5_threeAreTrue_40 : decode cX5_threeAreTrue 40 = .ok (.if_icmp .eq 7, 3) := by decide +kernel
theorem dX5_threeAreTrue_43 : decode cX5_threeAreTrue 43 = .ok (.iconst 1, 1) := by decide +kernel
theorem dX5_threeAreTrue_44 : decode cX5_threeAreTrue 44 = .ok (.goto 4, 3) := by decide +kernel
theorem dX5_threeAreTrue_47 : decode cX5_threeAreTrue 47 = .ok (.iconst 0, 1) := by decide +kernel
theorem dX5_threeAreTrue_48 : decode cX5_threeAreTrue 48 = .ok (.istore 5, 2) := by decide +kernel
theorem dX5_threeAreTrue_50 : decode cX5_threeAreTrue 50 = .ok (.iload 5, 2) := by decide +kernel
theorem dX5_threeAreTrue_52 : decode cX5_threeAreTrue 52 = .ok (.ifCond .eq 22, 3) := by decide +kernel
theorem dX5_threeAreTrue_55 : decode cX5_threeAreTrue 55 = .ok (.aload_n 0, 1) := by decide +kernel
theorem dX5_threeAreTrue_56 : decode cX5_threeAreTrue 56 = .ok (.iload_n 2, 1) := by decide +kernel
theorem dX5_threeAreTrue_57 : decode cX5_threeAreTrue 57 = .ok (.aaload, 1) := by decide +kernel
theorem dX5_threeAreTrue_58 : decode cX5_threeAreTrue 58 = .ok (.aload_n 0, 1) := by decide +kernel
theorem dX5_threeAreTrue_59 : decode cX5_threeAreTrue 59 = .ok (.iload_n 3, 1) := by decide +kernel
theorem dX5_threeAreTrue_60 : decode cX5_threeAreTrue 60 = .ok (.aaload, 1) := by decide +kernel
theorem dX5_threeAreTrue_61 : decode cX5_threeAreTrue 61 = .ok (.aload_n 0, 1) := by decide +kernel
theorem dX5_threeAreTrue_62 : decode cX5_threeAreTrue 62 = .ok (.iload 4, 2) := by decide +kernel
theorem dX5_threeAreTrue_64 : decode cX5_threeAreTrue 64 = .ok (.aaload, 1) := by decide +kernel
theorem dX5_threeAreTrue_65 : decode cX5_threeAreTrue 65 = .ok (.iload_n 1, 1) := by decide +kernel
theorem dX5_threeAreTrue_66 : decode cX5_threeAreTrue 66 = .ok (.invokestatic 63, 3) := by decide +kernel
theorem dX5_threeAreTrue_69 : decode cX5_threeAreTrue 69 = .ok (.ifCond .ne 5, 3) := by decide +kernel
theorem dX5_threeAreTrue_72 : decode cX5_threeAreTrue 72 = .ok (.iconst 0, 1) := by decide +kernel
theorem dX5_threeAreTrue_73 : decode cX5_threeAreTrue 73 = .ok (.ireturn, 1) := by decide +kernel
theorem dX5_threeAreTrue_74 : decode cX5_threeAreTrue 74 = .ok (.iinc 4 1, 3) := by decide +kernel
theorem dX5_threeAreTrue_77 : decode cX5_threeAreTrue 77 = .ok (.goto (-58), 3) := by decide +kernel
theorem dX5_threeAreTrue_80 : decode cX5_threeAreTrue 80 = .ok (.iinc 3 1, 3) := by decide +kernel
theorem dX5_threeAreTrue_83 : decode cX5_threeAreTrue 83 = .ok (.goto (-73), 3) := by decide +kernel
theorem dX5_threeAreTrue_86 : decode cX5_threeAreTrue 86 = .ok (.iinc 2 1, 3) := by decide +kernel
theorem dX5_threeAreTrue_89 : decode cX5_threeAreTrue 89 = .ok (.goto (-87), 3) := by decide +kernel
theorem dX5_threeAreTrue_92 : decode cX5_threeAreTrue 92 = .ok (.iconst 1, 1) := by decide +kernel
theorem dX5_threeAreTrue_93 : decode cX5_threeAreTrue 93 = .ok (.ireturn, 1) := by decide +kernel
theorem dX5_chainIsTrue_0 : decode cX5_chainIsTrue 0 = .ok (.aload_n 0, 1) := by decide +kernel
theorem dX5_chainIsTrue_1 : decode cX5_chainIsTrue 1 = .ok (.aload_n 1, 1) := by decide +kernel
theorem dX5_chainIsTrue_2 : decode cX5_chainIsTrue 2 = .ok (.iload_n 3, 1) := by decide +kernel
theorem dX5_chainIsTrue_3 : decode cX5_chainIsTrue 3 = .ok (.invokestatic 52, 3) := by decide +kernel
theorem dX5_chainIsTrue_6 : decode cX5_chainIsTrue 6 = .ok (.istore 4, 2) := by decide +kernel
theorem dX5_chainIsTrue_8 : decode cX5_chainIsTrue 8 = .ok (.aload_n 1, 1) := by decide +kernel
theorem dX5_chainIsTrue_9 : decode cX5_chainIsTrue 9 = .ok (.aload_n 2, 1) := by decide +kernel
theorem dX5_chainIsTrue_10 : decode cX5_chainIsTrue 10 = .ok (.iload_n 3, 1) := by decide +kernel
theorem dX5_chainIsTrue_11 : decode cX5_chainIsTrue 11 = .ok (.invokestatic 52, 3) := by decide +kernel
theorem dX5_chainIsTrue_14 : decode cX5_chainIsTrue 14 = .ok (.istore 5, 2) := by decide +kernel
theorem dX5_chainIsTrue_16 : decode cX5_chainIsTrue 16 = .ok (.iload 4, 2) := by decide +kernel
theorem dX5_chainIsTrue_18 : decode cX5_chainIsTrue 18 = .ok (.ifCond .gt 8, 3) := by decide +kernel
theorem dX5_chainIsTrue_21 : decode cX5_chainIsTrue 21 = .ok (.iload 5, 2) := by decide +kernel
theorem dX5_chainIsTrue_23 : decode cX5_chainIsTrue 23 = .ok (.ifCond .le 5, 3) := by decide +kernel
theorem dX5_chainIsTrue_26 : decode cX5_chainIsTrue 26 = .ok (.iconst 1, 1) := by decide +kernel
theorem dX5_chainIsTrue_27 : decode cX5_chainIsTrue 27 = .ok (.ireturn, 1) := by decide +kernel
theorem dX5_chainIsTrue_28 : decode cX5_chainIsTrue 28 = .ok (.iload 4, 2) := by decide +kernel
theorem dX5_chainIsTrue_30 : decode cX5_chainIsTrue 30 = .ok (.ifCond .eq 17, 3) := by decide +kernel
theorem dX5_chainIsTrue_33 : decode cX5_chainIsTrue 33 = .ok (.iload 5, 2) := by decide +kernel
theorem dX5_chainIsTrue_35 : decode cX5_chainIsTrue 35 = .ok (.ifCond .eq 12, 3) := by decide +kernel
theorem dX5_chainIsTrue_38 : decode cX5_chainIsTrue 38 = .ok (.aload_n 0, 1) := by decide +kernel
theorem dX5_chainIsTrue_39 : decode cX5_chainIsTrue 39 = .ok (.aload_n 2, 1) := by decide +kernel
theorem dX5_chainIsTrue_40 : decode cX5_chainIsTrue 40 = .ok (.iload_n 3, 1) := by decide +kernel
theorem dX5_chainIsTrue_41 : decode cX5_chainIsTrue 41 = .ok (.invokestatic 52, 3) := by decide +kernel
theorem dX5_chainIsTrue_44 : decode cX5_chainIsTrue 44 = .ok (.ifCond .ge 7, 3) := by decide +kernel
theorem dX5_chainIsTrue_47 : decode cX5_chainIsTrue 47 = .ok (.iconst 1, 1) := by decide +kernel
theorem dX5_chainIsTrue_48 : decode cX5_chainIsTrue 48 = .ok (.goto 4, 3) := by decide +kernel
theorem dX5_chainIsTrue_51 : decode cX5_chainIsTrue 51 = .ok (.iconst 0, 1) := by decide +kernel
theorem dX5_chainIsTrue_52 : decode cX5_chainIsTrue 52 = .ok (.istore 6, 2) := by decide +kernel
theorem dX5_chainIsTrue_54 : decode cX5_chainIsTrue 54 = .ok (.iload 6, 2) := by decide +kernel
theorem dX5_chainIsTrue_56 : decode cX5_chainIsTrue 56 = .ok (.ifCond .eq 28, 3) := by decide +kernel
theorem dX5_chainIsTrue_59 : decode cX5_chainIsTrue 59 = .ok (.aload_n 0, 1) := by decide +kernel
theorem dX5_chainIsTrue_60 : decode cX5_chainIsTrue 60 = .ok (.aload_n 2, 1) := by decide +kernel
theorem dX5_chainIsTrue_61 : decode cX5_chainIsTrue 61 = .ok (.invokestatic 56, 3) := by decide +kernel
theorem dX5_chainIsTrue_64 : decode cX5_chainIsTrue 64 = .ok (.aload_n 0, 1) := by decide +kernel
theorem dX5_chainIsTrue_65 : decode cX5_chainIsTrue 65 = .ok (.aload_n 1, 1) := by decide +kernel
theorem dX5_chainIsTrue_66 : decode cX5_chainIsTrue 66 = .ok (.invokestatic 56, 3) := by decide +kernel
theorem dX5_chainIsTrue_69 : decode cX5_chainIsTrue 69 = .ok (.aload_n 1, 1) := by decide +kernel
theorem dX5_chainIsTrue_70 : decode cX5_chainIsTrue 70 = .ok (.aload_n 2, 1) := by decide +kernel
theorem dX5_chainIsTrue_71 : decode cX5_chainIsTrue 71 = .ok (.invokestatic 56, 3) := by decide +kernel
theorem dX5_chainIsTrue_74 : decode cX5_chainIsTrue 74 = .ok (.invokestatic 67, 3) := by decide +kernel
theorem dX5_chainIsTrue_77 : decode cX5_chainIsTrue 77 = .ok (.if_icmp .ne 7, 3) := by decide +kernel
theorem dX5_chainIsTrue_80 : decode cX5_chainIsTrue 80 = .ok (.iconst 1, 1) := by decide +kernel
theorem dX5_chainIsTrue_81 : decode cX5_chainIsTrue 81 = .ok (.goto 4, 3) := by decide +kernel
theorem dX5_chainIsTrue_84 : decode cX5_chainIsTrue 84 = .ok (.iconst 0, 1) := by decide +kernel
theorem dX5_chainIsTrue_85 : decode cX5_chainIsTrue 85 = .ok (.ireturn, 1) := by decide +kernel
theorem dX6_init_0 : decode cX6_init 0 = .ok (.aload_n 0, 1) := by decide +kernel
theorem dX6_init_1 : decode cX6_init 1 = .ok (.invokespecial 1, 3) := by decide +kernel
theorem dX6_init_4 : decode cX6_init 4 = .ok (.aload_n 0, 1) := by decide +kernel
theorem dX6_init_5 : decode cX6_init 5 = .ok (.bipush 16, 2) := by decide +kernel
theorem dX6_init_7 : decode cX6_init 7 = .ok (.anewarray 9, 3) := by decide +kernel
theorem dX6_init_10 : decode cX6_init 10 = .ok (.putfield 11, 3) := by decide +kernel
theorem dX6_init_13 : decode cX6_init 13 = .ok (.aload_n 0, 1) := by decide +kernel
theorem dX6_init_14 : decode cX6_init 14 = .ok (.bipush 12, 2) := by decide +kernel
theorem dX6_init_16 : decode cX6_init 16 = .ok (.anewarray 15, 3) := by decide +kernel
theorem dX6_init_19 : decode cX6_init 19 = .ok (.putfield 17, 3) := by decide +kernel
theorem dX6_init_22 : decode cX6_init 22 = .ok (.aload_n 0, 1) := by decide +kernel
theorem dX6_init_23 : decode cX6_init 23 = .ok (.bipush 12, 2) := by decide +kernel
theorem dX6_init_25 : decode cX6_init 25 = .ok (.newarray .int, 2) := by decide +kernel
theorem dX6_init_27 : decode cX6_init 27 = .ok (.putfield 21, 3) := by decide +kernel
theorem dX6_init_30 : decode cX6_init 30 = .ok (.aload_n 0, 1) := by decide +kernel
theorem dX6_init_31 : decode cX6_init 31 = .ok (.new 25, 3) := by decide +kernel
theorem dX6_init_34 : decode cX6_init 34 = .ok (.dup, 1) := by decide +kernel
theorem dX6_init_35 : decode cX6_init 35 = .ok (.invokespecial 27, 3) := by decide +kernel
theorem dX6_init_38 : decode cX6_init 38 = .ok (.putfield 28, 3) := by decide +kernel
theorem dX6_init_41 : decode cX6_init 41 = .ok (.iconst 0, 1) := by decide +kernel
theorem dX6_init_42 : decode cX6_init 42 = .ok (.istore_n 1, 1) := by decide +kernel
theorem dX6_init_43 : decode cX6_init 43 = .ok (.iload_n 1, 1) := by decide +kernel
theorem dX6_init_44 : decode cX6_init 44 = .ok (.aload_n 0, 1) := by decide +kernel
theorem dX6_init_45 : decode cX6_init 45 = .ok (.getfield 11, 3) := by decide +kernel
theorem dX6_init_48 : decode cX6_init 48 = .ok (.arraylength, 1) := by decide +kernel
theorem dX6_init_49 : decode cX6_init 49 = .ok (.if_icmp .ge 22, 3) := by decide +kernel
theorem dX6_init_52 : decode cX6_init 52 = .ok (.aload_n 0, 1) := by decide +kernel
theorem dX6_init_53 : decode cX6_init 53 = .ok (.getfield 11, 3) := by decide +kernel
theorem dX6_init_56 : decode cX6_init 56 = .ok (.iload_n 1, 1) := by decide +kernel
theorem dX6_init_57 : decode cX6_init 57 = .ok (.new 9, 3) := by decide +kernel
theorem dX6_init_60 : decode cX6_init 60 = .ok (.dup, 1) := by decide +kernel
theorem dX6_init_61 : decode cX6_init 61 = .ok (.invokespecial 32, 3) := by decide +kernel
theorem dX6_init_64 : decode cX6_init 64 = .ok (.aastore, 1) := by decide +kernel
theorem dX6_init_65 : decode cX6_init 65 = .ok (.iinc 1 1, 3) := by decide +kernel
theorem dX6_init_68 : decode cX6_init 68 = .ok (.goto (-25), 3) := by decide +kernel
theorem dX6_init_71 : decode cX6_init 71 = .ok (.iconst 0, 1) := by decide +kernel
theorem dX6_init_72 : decode cX6_init 72 = .ok (.istore_n 1, 1) := by decide +kernel
theorem dX6_init_73 : decode cX6_init 73 = .ok (.iload_n 1, 1) := by decide +kernel
theorem dX6_init_74 : decode cX6_init 74 = .ok (.aload_n 0, 1) := by decide +kernel
theorem dX6_init_75 : decode cX6_init 75 = .ok (.getfield 17, 3) := by decide +kernel
theorem dX6_init_78 : decode cX6_init 78 = .ok (.arraylength, 1) := by decide +kernel
theorem dX6_init_79 : decode cX6_init 79 = .ok (.if_icmp .ge 22, 3) := by decide +kernel
theorem dX6_init_82 : decode cX6_init 82 = .ok (.aload_n 0, 1) := by decide +kernel
theorem dX6_init_83 : decode cX6_init 83 = .ok (.getfield 17, 3) := by decide +kernel
theorem dX6_init_86 : decode cX6_init 86 = .ok (.iload_n 1, 1) := by decide +kernel
theorem dX6_init_87 : decode cX6_init 87 = .ok (.new 15, 3) := by decide +kernel
theorem dX6_init_90 : decode cX6_init 90 = .ok (.dup, 1) := by decide +kernel
theorem dX6_init_91 : decode cX6_init 91 = .ok (.invokespecial 33, 3) := by decide +kernel
theorem dX6_init_94 : decode cX6_init 94 = .ok (.aastore, 1) := by decide +kernel
theorem dX6_init_95 : decode cX6_init 95 = .ok (.iinc 1 1, 3) := by decide +kernel
theorem dX6_init_98 : decode cX6_init 98 = .ok (.goto (-25), 3) := by decide +kernel
theorem dX6_init_101 : decode cX6_init 101 = .ok (.return_, 1) := by decide +kernel
theorem dX6_append_0 : decode cX6_append 0 = .ok (.iload_n 1, 1) := by decide +kernel
theorem dX6_append_1 : decode cX6_append 1 = .ok (.invokestatic 34, 3) := by decide +kernel
theorem dX6_append_4 : decode cX6_append 4 = .ok (.istore 5, 2) := by decide +kernel
theorem dX6_append_6 : decode cX6_append 6 = .ok (.iload 5, 2) := by decide +kernel
theorem dX6_append_8 : decode cX6_append 8 = .ok (.lload_n 3, 1) := by decide +kernel
theorem dX6_append_9 : decode cX6_append 9 = .ok (.invokestatic 38, 3) := by decide +kernel
theorem dX6_append_12 : decode cX6_append 12 = .ok (.aload_n 0, 1) := by decide +kernel
theorem dX6_append_13 : decode cX6_append 13 = .ok (.iload 5, 2) := by decide +kernel
theorem dX6_append_15 : decode cX6_append 15 = .ok (.iload_n 2, 1) := by decide +kernel
theorem dX6_append_16 : decode cX6_append 16 = .ok (.invokevirtual 42, 3) := by decide +kernel
theorem dX6_append_19 : decode cX6_append 19 = .ok (.astore 6, 2) := by decide +kernel
theorem dX6_append_21 : decode cX6_append 21 = .ok (.aload 6, 2) := by decide +kernel
theorem dX6_append_23 : decode cX6_append 23 = .ok (.getfield 46, 3) := by decide +kernel
theorem dX6_append_26 : decode cX6_append 26 = .ok (.bipush 32, 2) := by decide +kernel
theorem dX6_append_28 : decode cX6_append 28 = .ok (.if_icmp .lt 13, 3) := by decide +kernel
theorem dX6_append_31 : decode cX6_append 31 = .ok (.new 50, 3) := by decide +kernel
theorem dX6_append_34 : decode cX6_append 34 = .ok (.dup, 1) := by decide +kernel
theorem dX6_append_35 : decode cX6_append 35 = .ok (.ldc 52, 2) := by decide +kernel
theorem dX6_append_37 : decode cX6_append 37 = .ok (.invokespecial 54, 3) := by decide +kernel
theorem dX6_append_40 : decode cX6_append 40 = .ok (.athrow, 1) := by decide +kernel
theorem dX6_append_41 : decode cX6_append 41 = .ok (.aload 6, 2) := by decide +kernel
theorem dX6_append_43 : decode cX6_append 43 = .ok (.getfield 57, 3) := by decide +kernel
theorem dX6_append_46 : decode cX6_append 46 = .ok (.aload 6, 2) := by decide +kernel
theorem dX6_append_48 : decode cX6_append 48 = .ok (.getfield 46, 3) := by decide +kernel
theorem dX6_append_51 : decode cX6_append 51 = .ok (.lload_n 3, 1) := by decide +kernel
theorem dX6_append_52 : decode cX6_append 52 = .ok (.lastore, 1) := by decide +kernel
theorem dX6_append_53 : decode cX6_append 53 = .ok (.aload 6, 2) := by decide +kernel
theorem dX6_append_55 : decode cX6_append 55 = .ok (.dup, 1) := by decide +kernel
theorem dX6_append_56 : decode cX6_append 56 = .ok (.getfield 46, 3) := by decide +kernel
theorem dX6_append_59 : decode cX6_append 59 = .ok (.iconst 1, 1) := by decide +kernel
theorem dX6_append_60 : decode cX6_append 60 = .ok (.iadd, 1) := by decide +kernel
theorem dX6_append_61 : decode cX6_append 61 = .ok (.putfield 46, 3) := by decide +kernel
theorem dX6_append_64 : decode cX6_append 64 = .ok (.aload 6, 2) := by decide +kernel
theorem dX6_append_66 : decode cX6_append 66 = .ok (.getfield 46, 3) := by decide +kernel
theorem dX6_append_69 : decode cX6_append 69 = .ok (.ireturn, 1) := by decide +kernel
theorem dX6_set_0 : decode cX6_set 0 = .ok (.iload_n 1, 1) := by decide +kernel
theorem dX6_set_1 : decode cX6_set 1 = .ok (.invokestatic 34, 3) := by decide +kernel
theorem dX6_set_4 : decode cX6_set 4 = .ok (.istore 6, 2) := by decide +kernel
theorem dX6_set_6 : decode cX6_set 6 = .ok (.iload 6, 2) := by decide +kernel
theorem dX6_set_8 : decode cX6_set 8 = .ok (.lload 4, 2) := by decide +kernel
theorem dX6_set_10 : decode cX6_set 10 = .ok (.invokestatic 38, 3) := by decide +kernel
theorem dX6_set_13 : decode cX6_set 13 = .ok (.aload_n 0, 1) := by decide +kernel
theorem dX6_set_14 : decode cX6_set 14 = .ok (.iload 6, 2) := by decide +kernel
theorem dX6_set_16 : decode cX6_set 16 = .ok (.iload_n 2, 1) := by decide +kernel
theorem dX6_set_17 : decode cX6_set 17 = .ok (.invokevirtual 42, 3) := by decide +kernel
theorem dX6_set_20 : decode cX6_set 20 = .ok (.astore 7, 2) := by decide +kernel
theorem dX6_set_22 : decode cX6_set 22 = .ok (.iload_n 3, 1) := by decide +kernel
theorem dX6_set_23 : decode cX6_set 23 = .ok (.aload 7, 2) := by decide +kernel
theorem dX6_set_25 : decode cX6_set 25 = .ok (.getfield 46, 3) := by decide +kernel
theorem dX6_set_28 : decode cX6_set 28 = .ok (.invokestatic 61, 3) := by decide +kernel
theorem dX6_set_31 : decode cX6_set 31 = .ok (.aload 7, 2) := by decide +kernel
theorem dX6_set_33 : decode cX6_set 33 = .ok (.getfield 57, 3) := by decide +kernel
theorem dX6_set_36 : decode cX6_set 36 = .ok (.iload_n 3, 1) := by decide +kernel
theorem dX6_set_37 : decode cX6_set 37 = .ok (.laload, 1) := by decide +kernel
theorem dX6_set_38 : decode cX6_set 38 = .ok (.lstore 8, 2) := by decide +kernel
theorem dX6_set_40 : decode cX6_set 40 = .ok (.aload 7, 2) := by decide +kernel
theorem dX6_set_42 : decode cX6_set 42 = .ok (.getfield 57, 3) := by decide +kernel
theorem dX6_set_45 : decode cX6_set 45 = .ok (.iload_n 3, 1) := by decide +kernel
theorem dX6_set_46 : decode cX6_set 46 = .ok (.lload 4, 2) := by decide +kernel
theorem dX6_set_48 : decode cX6_set 48 = .ok (.lastore, 1) := by decide +kernel
theorem dX6_set_49 : decode cX6_set 49 = .ok (.lload 8, 2) := by decide +kernel
theorem dX6_set_51 : decode cX6_set 51 = .ok (.lreturn, 1) := by decide +kernel
theorem dX6_number_0 : decode cX6_number 0 = .ok (.aload_n 0, 1) := by decide +kernel
theorem dX6_number_1 : decode cX6_number 1 = .ok (.iload_n 1, 1) := by decide +kernel
theorem dX6_number_2 : decode cX6_number 2 = .ok (.invokestatic 34, 3) := by decide +kernel
theorem dX6_number_5 : decode cX6_number 5 = .ok (.iload_n 2, 1) := by decide +kernel
theorem dX6_number_6 : decode cX6_number 6 = .ok (.invokevirtual 42, 3) := by decide +kernel
theorem dX6_number_9 : decode cX6_number 9 = .ok (.astore 4, 2) := by decide +kernel
theorem dX6_number_11 : decode cX6_number 11 = .ok (.iload_n 3, 1) := by decide +kernel
theorem dX6_number_12 : decode cX6_number 12 = .ok (.aload 4, 2) := by decide +kernel
theorem dX6_number_14 : decode cX6_number 14 = .ok (.getfield 46, 3) := by decide +kernel
theorem dX6_number_17 : decode cX6_number 17 = .ok (.invokestatic 61, 3) := by decide +kernel
theorem dX6_number_20 : decode cX6_number 20 = .ok (.aload 4, 2) := by decide +kernel
theorem dX6_number_22 : decode cX6_number 22 = .ok (.getfield 57, 3) := by decide +kernel
theorem dX6_number_25 : decode cX6_number 25 = .ok (.iload_n 3, 1) := by decide +kernel
theorem dX6_number_26 : decode cX6_number 26 = .ok (.laload, 1) := by decide +kernel
theorem dX6_number_27 : decode cX6_number 27 = .ok (.lreturn, 1) := by decide +kernel
theorem dX6_length_0 : decode cX6_length 0 = .ok (.aload_n 0, 1) := by decide +kernel
theorem dX6_length_1 : decode cX6_length 1 = .ok (.iload_n 1, 1) := by decide +kernel
theorem dX6_length_2 : decode cX6_length 2 = .ok (.invokestatic 34, 3) := by decide +kernel
theorem dX6_length_5 : decode cX6_length 5 = .ok (.iload_n 2, 1) := by decide +kernel
theorem dX6_length_6 : decode cX6_length 6 = .ok (.invokevirtual 42, 3) := by decide +kernel
theorem dX6_length_9 : decode cX6_length 9 = .ok (.getfield 46, 3) := by decide +kernel
theorem dX6_length_12 : decode cX6_length 12 = .ok (.ireturn, 1) := by decide +kernel
theorem dX6_clear_0 : decode cX6_clear 0 = .ok (.aload_n 0, 1) := by decide +kernel
theorem dX6_clear_1 : decode cX6_clear 1 = .ok (.iload_n 1, 1) := by decide +kernel
theorem dX6_clear_2 : decode cX6_clear 2 = .ok (.invokestatic 34, 3) := by decide +kernel
theorem dX6_clear_5 : decode cX6_clear 5 = .ok (.iload_n 2, 1) := by decide +kernel
theorem dX6_clear_6 : decode cX6_clear 6 = .ok (.invokevirtual 42, 3) := by decide +kernel
theorem dX6_clear_9 : decode cX6_clear 9 = .ok (.astore_n 3, 1) := by decide +kernel
theorem dX6_clear_10 : decode cX6_clear 10 = .ok (.aload_n 3, 1) := by decide +kernel
theorem dX6_clear_11 : decode cX6_clear 11 = .ok (.getfield 46, 3) := by decide +kernel
theorem dX6_clear_14 : decode cX6_clear 14 = .ok (.istore 4, 2) := by decide +kernel
theorem dX6_clear_16 : decode cX6_clear 16 = .ok (.aload_n 3, 1) := by decide +kernel
theorem dX6_clear_17 : decode cX6_clear 17 = .ok (.iconst 0, 1) := by decide +kernel
theorem dX6_clear_18 : decode cX6_clear 18 = .ok (.putfield 46, 3) := by decide +kernel
theorem dX6_clear_21 : decode cX6_clear 21 = .ok (.iload 4, 2) := by decide +kernel
theorem dX6_clear_23 : decode cX6_clear 23 = .ok (.ireturn, 1) := by decide +kernel
theorem dX6_repeat_0 : decode cX6_repeat 0 = .ok (.iload_n 1, 1) := by decide +kernel
theorem dX6_repeat_1 : decode cX6_repeat 1 = .ok (.invokestatic 34, 3) := by decide +kernel
theorem dX6_repeat_4 : decode cX6_repeat 4 = .ok (.istore 4, 2) := by decide +kernel
theorem dX6_repeat_6 : decode cX6_repeat 6 = .ok (.iload_n 3, 1) := by decide +kernel
theorem dX6_repeat_7 : decode cX6_repeat 7 = .ok (.iconst 1, 1) := by decide +kernel
theorem dX6_repeat_8 : decode cX6_repeat 8 = .ok (.if_icmp .lt 9, 3) := by decide +kernel
theorem dX6_repeat_11 : decode cX6_repeat 11 = .ok (.iload_n 3, 1) := by decide +kernel
theorem dX6_repeat_12 : decode cX6_repeat 12 = .ok (.bipush 8, 2) := by decide +kernel
theorem dX6_repeat_14 : decode cX6_repeat 14 = .ok (.if_icmp .le 13, 3) := by decide +kernel
theorem dX6_repeat_17 : decode cX6_repeat 17 = .ok (.new 65, 3) := by decide +kernel
theorem dX6_repeat_20 : decode cX6_repeat 20 = .ok (.dup, 1) := by decide +kernel
theorem dX6_repeat_21 : decode cX6_repeat 21 = .ok (.ldc 67, 2) := by decide +kernel
theorem dX6_repeat_23 : decode cX6_repeat 23 = .ok (.invokespecial 69, 3) := by decide +kernel
theorem dX6_repeat_26 : decode cX6_repeat 26 = .ok (.athrow, 1) := by decide +kernel
theorem dX6_repeat_27 : decode cX6_repeat 27 = .ok (.aload_n 0, 1) := by decide +kernel
theorem dX6_repeat_28 : decode cX6_repeat 28 = .ok (.iload 4, 2) := by decide +kernel
theorem dX6_repeat_30 : decode cX6_repeat 30 = .ok (.iload_n 2, 1) := by decide +kernel
theorem dX6_repeat_31 : decode cX6_repeat 31 = .ok (.invokevirtual 42, 3) := by decide +kernel
theorem dX6_repeat_34 : decode cX6_repeat 34 = .ok (.astore 5, 2) := by decide +kernel
theorem dX6_repeat_36 : decode cX6_repeat 36 = .ok (.aload 5, 2) := by decide +kernel
theorem dX6_repeat_38 : decode cX6_repeat 38 = .ok (.getfield 46, 3) := by decide +kernel
theorem dX6_repeat_41 : decode cX6_repeat 41 = .ok (.istore 6, 2) := by decide +kernel
theorem dX6_repeat_43 : decode cX6_repeat 43 = .ok (.iload 6, 2) := by decide +kernel
theorem dX6_repeat_45 : decode cX6_repeat 45 = .ok (.iload_n 3, 1) := by decide +kernel
theorem dX6_repeat_46 : decode cX6_repeat 46 = .ok (.imul, 1) := by decide +kernel
theorem dX6_repeat_47 : decode cX6_repeat 47 = .ok (.bipush 32, 2) := by decide +kernel
theorem dX6_repeat_49 : decode cX6_repeat 49 = .ok (.if_icmp .le 13, 3) := by decide +kernel
theorem dX6_repeat_52 : decode cX6_repeat 52 = .ok (.new 50, 3) := by decide +kernel
theorem dX6_repeat_55 : decode cX6_repeat 55 = .ok (.dup, 1) := by decide +kernel
theorem dX6_repeat_56 : decode cX6_repeat 56 = .ok (.ldc 70, 2) := by decide +kernel
theorem dX6_repeat_58 : decode cX6_repeat 58 = .ok (.invokespecial 54, 3) := by decide +kernel
theorem dX6_repeat_61 : decode cX6_repeat 61 = .ok (.athrow, 1) := by decide +kernel
theorem dX6_repeat_62 : decode cX6_repeat 62 = .ok (.aload 5, 2) := by decide +kernel
theorem dX6_repeat_64 : decode cX6_repeat 64 = .ok (.iload 6, 2) := by decide +kernel
theorem dX6_repeat_66 : decode cX6_repeat 66 = .ok (.iload_n 3, 1) := by decide +kernel
theorem dX6_repeat_67 : decode cX6_repeat 67 = .ok (.imul, 1) := by decide +kernel
theorem dX6_repeat_68 : decode cX6_repeat 68 = .ok (.putfield 46, 3) := by decide +kernel
theorem dX6_repeat_71 : decode cX6_repeat 71 = .ok (.iload 6, 2) := by decide +kernel
theorem dX6_repeat_73 : decode cX6_repeat 73 = .ok (.istore 7, 2) := by decide +kernel
theorem dX6_repeat_75 : decode cX6_repeat 75 = .ok (.iload 7, 2) := by decide +kernel
theorem dX6_repeat_77 : decode cX6_repeat 77 = .ok (.aload 5, 2) := by decide +kernel
theorem dX6_repeat_79 : decode cX6_repeat 79 = .ok (.getfield 46, 3) := by decide +kernel
theorem dX6_repeat_82 : decode cX6_repeat 82 = .ok (.if_icmp .ge 28, 3) := by decide +kernel
theorem dX6_repeat_85 : decode cX6_repeat 85 = .ok (.aload 5, 2) := by decide +kernel
theorem dX6_repeat_87 : decode cX6_repeat 87 = .ok (.getfield 57, 3) := by decide +kernel
theorem dX6_repeat_90 : decode cX6_repeat 90 = .ok (.iload 7, 2) := by decide +kernel
theorem dX6_repeat_92 : decode cX6_repeat 92 = .ok (.aload 5, 2) := by decide +kernel
theorem dX6_repeat_94 : decode cX6_repeat 94 = .ok (.getfield 57, 3) := by decide +kernel
theorem dX6_repeat_97 : decode cX6_repeat 97 = .ok (.iload 7, 2) := by decide +kernel
theorem dX6_repeat_99 : decode cX6_repeat 99 = .ok (.iload 6, 2) := by decide +kernel
theorem dX6_repeat_101 : decode cX6_repeat 101 = .ok (.isub, 1) := by decide +kernel
theorem dX6_repeat_102 : decode cX6_repeat 102 = .ok (.laload, 1) := by decide +kernel
theorem dX6_repeat_103 : decode cX6_repeat 103 = .ok (.lastore, 1) := by decide +kernel
theorem dX6_repeat_104 : decode cX6_repeat 104 = .ok (.iinc 7 1, 3) := by decide +kernel
theorem dX6_repeat_107 : decode cX6_repeat 107 = .ok (.goto (-32), 3) := by decide +kernel
theorem dX6_repeat_110 : decode cX6_repeat 110 = .ok (.aload 5, 2) := by decide +kernel
theorem dX6_repeat_112 : decode cX6_repeat 112 = .ok (.getfield 46, 3) := by decide +kernel
theorem dX6_repeat_115 : decode cX6_repeat 115 = .ok (.ireturn, 1) := by decide +kernel
theorem dX6_reverse_0 : decode cX6_reverse 0 = .ok (.aload_n 0, 1) := by decide +kernel
theorem dX6_reverse_1 : decode cX6_reverse 1 = .ok (.iload_n 1, 1) := by decide +kernel
theorem dX6_reverse_2 : decode cX6_reverse 2 = .ok (.invokestatic 34, 3) := by decide +kernel
theorem dX6_reverse_5 : decode cX6_reverse 5 = .ok (.iload_n 2, 1) := by decide +kernel
theorem dX6_reverse_6 : decode cX6_reverse 6 = .ok (.invokevirtual 42, 3) := by decide +kernel
theorem dX6_reverse_9 : decode cX6_reverse 9 = .ok (.astore_n 3, 1) := by decide +kernel
theorem dX6_reverse_10 : decode cX6_reverse 10 = .ok (.aload_n 3, 1) := by decide +kernel
theorem dX6_reverse_11 : decode cX6_reverse 11 = .ok (.getfield 46, 3) := by decide +kernel
theorem dX6_reverse_14 : decode cX6_reverse 14 = .ok (.iconst 1, 1) := by decide +kernel
theorem dX6_reverse_15 : decode cX6_reverse 15 = .ok (.isub, 1) := by decide +kernel
theorem dX6_reverse_16 : decode cX6_reverse 16 = .ok (.istore 4, 2) := by decide +kernel
theorem dX6_reverse_18 : decode cX6_reverse 18 = .ok (.iconst 0, 1) := by decide +kernel
theorem dX6_reverse_19 : decode cX6_reverse 19 = .ok (.istore 5, 2) := by decide +kernel
theorem dX6_reverse_21 : decode cX6_reverse 21 = .ok (.iload 5, 2) := by decide +kernel
theorem dX6_reverse_23 : decode cX6_reverse 23 = .ok (.iload 4, 2) := by decide +kernel
theorem dX6_reverse_25 : decode cX6_reverse 25 = .ok (.if_icmp .ge 44, 3) := by decide +kernel
theorem dX6_reverse_28 : decode cX6_reverse 28 = .ok (.aload_n 3, 1) := by decide +kernel
theorem dX6_reverse_29 : decode cX6_reverse 29 = .ok (.getfield 57, 3) := by decide +kernel
theorem dX6_reverse_32 : decode cX6_reverse 32 = .ok (.iload 5, 2) := by decide +kernel
theorem dX6_reverse_34 : decode cX6_reverse 34 = .ok (.laload, 1) := by decide +kernel
theorem dX6_reverse_35 : decode cX6_reverse 35 = .ok (.lstore 6, 2) := by decide +kernel
theorem dX6_reverse_37 : decode cX6_reverse 37 = .ok (.aload_n 3, 1) := by decide +kernel
theorem dX6_reverse_38 : decode cX6_reverse 38 = .ok (.getfield 57, 3) := by decide +kernel
theorem dX6_reverse_41 : decode cX6_reverse 41 = .ok (.iload 5, 2) := by decide +kernel
theorem dX6_reverse_43 : decode cX6_reverse 43 = .ok (.aload_n 3, 1) := by decide +kernel
theorem dX6_reverse_44 : decode cX6_reverse 44 = .ok (.getfield 57, 3) := by decide +kernel
theorem dX6_reverse_47 : decode cX6_reverse 47 = .ok (.iload 4, 2) := by decide +kernel
theorem dX6_reverse_49 : decode cX6_reverse 49 = .ok (.laload, 1) := by decide +kernel
theorem dX6_reverse_50 : decode cX6_reverse 50 = .ok (.lastore, 1) := by decide +kernel
theorem dX6_reverse_51 : decode cX6_reverse 51 = .ok (.aload_n 3, 1) := by decide +kernel
theorem dX6_reverse_52 : decode cX6_reverse 52 = .ok (.getfield 57, 3) := by decide +kernel
theorem dX6_reverse_55 : decode cX6_reverse 55 = .ok (.iload 4, 2) := by decide +kernel
theorem dX6_reverse_57 : decode cX6_reverse 57 = .ok (.lload 6, 2) := by decide +kernel
theorem dX6_reverse_59 : decode cX6_reverse 59 = .ok (.lastore, 1) := by decide +kernel
theorem dX6_reverse_60 : decode cX6_reverse 60 = .ok (.iinc 4 (-1), 3) := by decide +kernel
theorem dX6_reverse_63 : decode cX6_reverse 63 = .ok (.iinc 5 1, 3) := by decide +kernel
theorem dX6_reverse_66 : decode cX6_reverse 66 = .ok (.goto (-45), 3) := by decide +kernel
theorem dX6_reverse_69 : decode cX6_reverse 69 = .ok (.aload_n 3, 1) := by decide +kernel
theorem dX6_reverse_70 : decode cX6_reverse 70 = .ok (.getfield 46, 3) := by decide +kernel
theorem dX6_reverse_73 : decode cX6_reverse 73 = .ok (.ireturn, 1) := by decide +kernel
theorem dX6_cut_0 : decode cX6_cut 0 = .ok (.aload_n 0, 1) := by decide +kernel
theorem dX6_cut_1 : decode cX6_cut 1 = .ok (.iload_n 1, 1) := by decide +kernel
theorem dX6_cut_2 : decode cX6_cut 2 = .ok (.invokestatic 34, 3) := by decide +kernel
theorem dX6_cut_5 : decode cX6_cut 5 = .ok (.iload_n 2, 1) := by decide +kernel
theorem dX6_cut_6 : decode cX6_cut 6 = .ok (.invokevirtual 42, 3) := by decide +kernel
theorem dX6_cut_9 : decode cX6_cut 9 = .ok (.astore 5, 2) := by decide +kernel
theorem dX6_cut_11 : decode cX6_cut 11 = .ok (.iload_n 3, 1) := by decide +kernel
theorem dX6_cut_12 : decode cX6_cut 12 = .ok (.ifCond .lt 19, 3) := by decide +kernel
theorem dX6_cut_15 : decode cX6_cut 15 = .ok (.iload 4, 2) := by decide +kernel
theorem dX6_cut_17 : decode cX6_cut 17 = .ok (.iload_n 3, 1) := by decide +kernel
theorem dX6_cut_18 : decode cX6_cut 18 = .ok (.if_icmp .lt 13, 3) := by decide +kernel
theorem dX6_cut_21 : decode cX6_cut 21 = .ok (.iload 4, 2) := by decide +kernel
theorem dX6_cut_23 : decode cX6_cut 23 = .ok (.aload 5, 2) := by decide +kernel
theorem dX6_cut_25 : decode cX6_cut 25 = .ok (.getfield 46, 3) := by decide +kernel
theorem dX6_cut_28 : decode cX6_cut 28 = .ok (.if_icmp .le 13, 3) := by decide +kernel
theorem dX6_cut_31 : decode cX6_cut 31 = .ok (.new 72, 3) := by decide +kernel
theorem dX6_cut_34 : decode cX6_cut 34 = .ok (.dup, 1) := by decide +kernel
theorem dX6_cut_35 : decode cX6_cut 35 = .ok (.ldc 74, 2) := by decide +kernel
theorem dX6_cut_37 : decode cX6_cut 37 = .ok (.invokespecial 76, 3) := by decide +kernel
theorem dX6_cut_40 : decode cX6_cut 40 = .ok (.athrow, 1) := by decide +kernel
theorem dX6_cut_41 : decode cX6_cut 41 = .ok (.aload 5, 2) := by decide +kernel
theorem dX6_cut_43 : decode cX6_cut 43 = .ok (.iload 4, 2) := by decide +kernel
theorem dX6_cut_45 : decode cX6_cut 45 = .ok (.iload_n 3, 1) := by decide +kernel
theorem dX6_cut_46 : decode cX6_cut 46 = .ok (.isub, 1) := by decide +kernel
theorem dX6_cut_47 : decode cX6_cut 47 = .ok (.putfield 46, 3) := by decide +kernel
theorem dX6_cut_50 : decode cX6_cut 50 = .ok (.iconst 0, 1) := by decide +kernel
theorem dX6_cut_51 : decode cX6_cut 51 = .ok (.istore 6, 2) := by decide +kernel
theorem dX6_cut_53 : decode cX6_cut 53 = .ok (.iload 6, 2) := by decide +kernel
theorem dX6_cut_55 : decode cX6_cut 55 = .ok (.aload 5, 2) := by decide +kernel
theorem dX6_cut_57 : decode cX6_cut 57 = .ok (.getfield 46, 3) := by decide +kernel
theorem dX6_cut_60 : decode cX6_cut 60 = .ok (.if_icmp .ge 27, 3) := by decide +kernel
theorem dX6_cut_63 : decode cX6_cut 63 = .ok (.aload 5, 2) := by decide +kernel
theorem dX6_cut_65 : decode cX6_cut 65 = .ok (.getfield 57, 3) := by decide +kernel
theorem dX6_cut_68 : decode cX6_cut 68 = .ok (.iload 6, 2) := by decide +kernel
theorem dX6_cut_70 : decode cX6_cut 70 = .ok (.aload 5, 2) := by decide +kernel
theorem dX6_cut_72 : decode cX6_cut 72 = .ok (.getfield 57, 3) := by decide +kernel
theorem dX6_cut_75 : decode cX6_cut 75 = .ok (.iload_n 3, 1) := by decide +kernel
theorem dX6_cut_76 : decode cX6_cut 76 = .ok (.iload 6, 2) := by decide +kernel
theorem dX6_cut_78 : decode cX6_cut 78 = .ok (.iadd, 1) := by decide +kernel
theorem dX6_cut_79 : decode cX6_cut 79 = .ok (.laload, 1) := by decide +kernel
theorem dX6_cut_80 : decode cX6_cut 80 = .ok (.lastore, 1) := by decide +kernel
theorem dX6_cut_81 : decode cX6_cut 81 = .ok (.iinc 6 1, 3) := by decide +kernel
theorem dX6_cut_84 : decode cX6_cut 84 = .ok (.goto (-31), 3) := by decide +kernel
theorem dX6_cut_87 : decode cX6_cut 87 = .ok (.aload 5, 2) := by decide +kernel
theorem dX6_cut_89 : decode cX6_cut 89 = .ok (.getfield 46, 3) := by decide +kernel
theorem dX6_cut_92 : decode cX6_cut 92 = .ok (.ireturn, 1) := by decide +kernel
theorem dX6_convert_0 : decode cX6_convert 0 = .ok (.iload_n 1, 1) := by decide +kernel
theorem dX6_convert_1 : decode cX6_convert 1 = .ok (.invokestatic 34, 3) := by decide +kernel
theorem dX6_convert_4 : decode cX6_convert 4 = .ok (.istore 6, 2) := by decide +kernel
theorem dX6_convert_6 : decode cX6_convert 6 = .ok (.iload_n 3, 1) := by decide +kernel
theorem dX6_convert_7 : decode cX6_convert 7 = .ok (.invokestatic 34, 3) := by decide +kernel
theorem dX6_convert_10 : decode cX6_convert 10 = .ok (.istore 7, 2) := by decide +kernel
theorem dX6_convert_12 : decode cX6_convert 12 = .ok (.iload 5, 2) := by decide +kernel
theorem dX6_convert_14 : decode cX6_convert 14 = .ok (.bipush 110, 2) := by decide +kernel
theorem dX6_convert_16 : decode cX6_convert 16 = .ok (.if_icmp .eq 27, 3) := by decide +kernel
theorem dX6_convert_19 : decode cX6_convert 19 = .ok (.iload 5, 2) := by decide +kernel
theorem dX6_convert_21 : decode cX6_convert 21 = .ok (.bipush 117, 2) := by decide +kernel
theorem dX6_convert_23 : decode cX6_convert 23 = .ok (.if_icmp .eq 20, 3) := by decide +kernel
theorem dX6_convert_26 : decode cX6_convert 26 = .ok (.iload 5, 2) := by decide +kernel
theorem dX6_convert_28 : decode cX6_convert 28 = .ok (.bipush 116, 2) := by decide +kernel
theorem dX6_convert_30 : decode cX6_convert 30 = .ok (.if_icmp .eq 13, 3) := by decide +kernel
theorem dX6_convert_33 : decode cX6_convert 33 = .ok (.new 65, 3) := by decide +kernel
theorem dX6_convert_36 : decode cX6_convert 36 = .ok (.dup, 1) := by decide +kernel
theorem dX6_convert_37 : decode cX6_convert 37 = .ok (.ldc 77, 2) := by decide +kernel
theorem dX6_convert_39 : decode cX6_convert 39 = .ok (.invokespecial 69, 3) := by decide +kernel
theorem dX6_convert_42 : decode cX6_convert 42 = .ok (.athrow, 1) := by decide +kernel
theorem dX6_convert_43 : decode cX6_convert 43 = .ok (.aload_n 0, 1) := by decide +kernel
theorem dX6_convert_44 : decode cX6_convert 44 = .ok (.iload 6, 2) := by decide +kernel
theorem dX6_convert_46 : decode cX6_convert 46 = .ok (.iload_n 2, 1) := by decide +kernel
theorem dX6_convert_47 : decode cX6_convert 47 = .ok (.invokevirtual 42, 3) := by decide +kernel
theorem dX6_convert_50 : decode cX6_convert 50 = .ok (.astore 8, 2) := by decide +kernel
theorem dX6_convert_52 : decode cX6_convert 52 = .ok (.aload_n 0, 1) := by decide +kernel
theorem dX6_convert_53 : decode cX6_convert 53 = .ok (.iload 7, 2) := by decide +kernel
theorem dX6_convert_55 : decode cX6_convert 55 = .ok (.iload 4, 2) := by decide +kernel
theorem dX6_convert_57 : decode cX6_convert 57 = .ok (.invokevirtual 42, 3) := by decide +kernel
theorem dX6_convert_60 : decode cX6_convert 60 = .ok (.astore 9, 2) := by decide +kernel
theorem dX6_convert_62 : decode cX6_convert 62 = .ok (.iconst 0, 1) := by decide +kernel
theorem dX6_convert_63 : decode cX6_convert 63 = .ok (.istore 10, 2) := by decide +kernel
theorem dX6_convert_65 : decode cX6_convert 65 = .ok (.iload 10, 2) := by decide +kernel
theorem dX6_convert_67 : decode cX6_convert 67 = .ok (.aload 8, 2) := by decide +kernel
theorem dX6_convert_69 : decode cX6_convert 69 = .ok (.getfield 46, 3) := by decide +kernel
theorem dX6_convert_72 : decode cX6_convert 72 = .ok (.if_icmp .ge 39, 3) := by decide +kernel
theorem dX6_convert_75 : decode cX6_convert 75 = .ok (.iload 6, 2) := by decide +kernel
theorem dX6_convert_77 : decode cX6_convert 77 = .ok (.iload 5, 2) := by decide +kernel
theorem dX6_convert_79 : decode cX6_convert 79 = .ok (.aload 8, 2) := by decide +kernel
theorem dX6_convert_81 : decode cX6_convert 81 = .ok (.getfield 57, 3) := by decide +kernel
theorem dX6_convert_84 : decode cX6_convert 84 = .ok (.iload 10, 2) := by decide +kernel
theorem dX6_convert_86 : decode cX6_convert 86 = .ok (.laload, 1) := by decide +kernel
theorem dX6_convert_87 : decode cX6_convert 87 = .ok (.iload 7, 2) := by decide +kernel
theorem dX6_convert_89 : decode cX6_convert 89 = .ok (.invokestatic 79, 3) := by decide +kernel
theorem dX6_convert_92 : decode cX6_convert 92 = .ok (.ifCond .ne 13, 3) := by decide +kernel
theorem dX6_convert_95 : decode cX6_convert 95 = .ok (.new 50, 3) := by decide +kernel
theorem dX6_convert_98 : decode cX6_convert 98 = .ok (.dup, 1) := by decide +kernel
theorem dX6_convert_99 : decode cX6_convert 99 = .ok (.ldc 83, 2) := by decide +kernel
theorem dX6_convert_101 : decode cX6_convert 101 = .ok (.invokespecial 54, 3) := by decide +kernel
theorem dX6_convert_104 : decode cX6_convert 104 = .ok (.athrow, 1) := by decide +kernel
theorem dX6_convert_105 : decode cX6_convert 105 = .ok (.iinc 10 1, 3) := by decide +kernel
theorem dX6_convert_108 : decode cX6_convert 108 = .ok (.goto (-43), 3) := by decide +kernel
theorem dX6_convert_111 : decode cX6_convert 111 = .ok (.aload 9, 2) := by decide +kernel
theorem dX6_convert_113 : decode cX6_convert 113 = .ok (.aload 8, 2) := by decide +kernel
theorem dX6_convert_115 : decode cX6_convert 115 = .ok (.getfield 46, 3) := by decide +kernel
theorem dX6_convert_118 : decode cX6_convert 118 = .ok (.putfield 46, 3) := by decide +kernel
theorem dX6_convert_121 : decode cX6_convert 121 = .ok (.iconst 0, 1) := by decide +kernel
theorem dX6_convert_122 : decode cX6_convert 122 = .ok (.istore 10, 2) := by decide +kernel
theorem dX6_convert_124 : decode cX6_convert 124 = .ok (.iload 10, 2) := by decide +kernel
theorem dX6_convert_126 : decode cX6_convert 126 = .ok (.aload 8, 2) := by decide +kernel
theorem dX6_convert_128 : decode cX6_convert 128 = .ok (.getfield 46, 3) := by decide +kernel
theorem dX6_convert_131 : decode cX6_convert 131 = .ok (.if_icmp .ge 32, 3) := by decide +kernel
theorem dX6_convert_134 : decode cX6_convert 134 = .ok (.aload 9, 2) := by decide +kernel
theorem dX6_convert_136 : decode cX6_convert 136 = .ok (.getfield 57, 3) := by decide +kernel
theorem dX6_convert_139 : decode cX6_convert 139 = .ok (.iload 10, 2) := by decide +kernel
theorem dX6_convert_141 : decode cX6_convert 141 = .ok (.iload 6, 2) := by decide +kernel
theorem dX6_convert_143 : decode cX6_convert 143 = .ok (.iload 5, 2) := by decide +kernel
theorem dX6_convert_145 : decode cX6_convert 145 = .ok (.aload 8, 2) := by decide +kernel
theorem dX6_convert_147 : decode cX6_convert 147 = .ok (.getfield 57, 3) := by decide +kernel
theorem dX6_convert_150 : decode cX6_convert 150 = .ok (.iload 10, 2) := by decide +kernel
theorem dX6_convert_152 : decode cX6_convert 152 = .ok (.laload, 1) := by decide +kernel
theorem dX6_convert_153 : decode cX6_convert 153 = .ok (.invokestatic 85, 3) := by decide +kernel
theorem dX6_convert_156 : decode cX6_convert 156 = .ok (.lastore, 1) := by decide +kernel
theorem dX6_convert_157 : decode cX6_convert 157 = .ok (.iinc 10 1, 3) := by decide +kernel
theorem dX6_convert_160 : decode cX6_convert 160 = .ok (.goto (-36), 3) := by decide +kernel
theorem dX6_convert_163 : decode cX6_convert 163 = .ok (.aload 9, 2) := by decide +kernel
theorem dX6_convert_165 : decode cX6_convert 165 = .ok (.getfield 46, 3) := by decide +kernel
theorem dX6_convert_168 : decode cX6_convert 168 = .ok (.ireturn, 1) := by decide +kernel
theorem dX6_span_0 : decode cX6_span 0 = .ok (.aload_n 0, 1) := by decide +kernel
theorem dX6_span_1 : decode cX6_span 1 = .ok (.iload_n 1, 1) := by decide +kernel
theorem dX6_span_2 : decode cX6_span 2 = .ok (.invokevirtual 89, 3) := by decide +kernel
theorem dX6_span_5 : decode cX6_span 5 = .ok (.astore 5, 2) := by decide +kernel
theorem dX6_span_7 : decode cX6_span 7 = .ok (.iload_n 2, 1) := by decide +kernel
theorem dX6_span_8 : decode cX6_span 8 = .ok (.invokestatic 93, 3) := by decide +kernel
theorem dX6_span_11 : decode cX6_span 11 = .ok (.iload_n 3, 1) := by decide +kernel
theorem dX6_span_12 : decode cX6_span 12 = .ok (.ifCond .lt 16, 3) := by decide +kernel
theorem dX6_span_15 : decode cX6_span 15 = .ok (.iload 4, 2) := by decide +kernel
theorem dX6_span_17 : decode cX6_span 17 = .ok (.iload_n 3, 1) := by decide +kernel
theorem dX6_span_18 : decode cX6_span 18 = .ok (.if_icmp .lt 10, 3) := by decide +kernel
theorem dX6_span_21 : decode cX6_span 21 = .ok (.iload 4, 2) := by decide +kernel
theorem dX6_span_23 : decode cX6_span 23 = .ok (.bipush 32, 2) := by decide +kernel
theorem dX6_span_25 : decode cX6_span 25 = .ok (.if_icmp .le 13, 3) := by decide +kernel
theorem dX6_span_28 : decode cX6_span 28 = .ok (.new 65, 3) := by decide +kernel
theorem dX6_span_31 : decode cX6_span 31 = .ok (.dup, 1) := by decide +kernel
theorem dX6_span_32 : decode cX6_span 32 = .ok (.ldc 74, 2) := by decide +kernel
theorem dX6_span_34 : decode cX6_span 34 = .ok (.invokespecial 69, 3) := by decide +kernel
theorem dX6_span_37 : decode cX6_span 37 = .ok (.athrow, 1) := by decide +kernel
theorem dX6_span_38 : decode cX6_span 38 = .ok (.aload 5, 2) := by decide +kernel
theorem dX6_span_40 : decode cX6_span 40 = .ok (.iload_n 2, 1) := by decide +kernel
theorem dX6_span_41 : decode cX6_span 41 = .ok (.putfield 97, 3) := by decide +kernel
theorem dX6_span_44 : decode cX6_span 44 = .ok (.aload 5, 2) := by decide +kernel
theorem dX6_span_46 : decode cX6_span 46 = .ok (.iload_n 3, 1) := by decide +kernel
theorem dX6_span_47 : decode cX6_span 47 = .ok (.putfield 100, 3) := by decide +kernel
theorem dX6_span_50 : decode cX6_span 50 = .ok (.aload 5, 2) := by decide +kernel
theorem dX6_span_52 : decode cX6_span 52 = .ok (.iload 4, 2) := by decide +kernel
theorem dX6_span_54 : decode cX6_span 54 = .ok (.putfield 103, 3) := by decide +kernel
theorem dX6_span_57 : decode cX6_span 57 = .ok (.iload 4, 2) := by decide +kernel
theorem dX6_span_59 : decode cX6_span 59 = .ok (.iload_n 3, 1) := by decide +kernel
theorem dX6_span_60 : decode cX6_span 60 = .ok (.isub, 1) := by decide +kernel
theorem dX6_span_61 : decode cX6_span 61 = .ok (.ireturn, 1) := by decide +kernel
theorem dX6_tells_0 : decode cX6_tells 0 = .ok (.aload_n 0, 1) := by decide +kernel
theorem dX6_tells_1 : decode cX6_tells 1 = .ok (.iload_n 1, 1) := by decide +kernel
theorem dX6_tells_2 : decode cX6_tells 2 = .ok (.invokevirtual 89, 3) := by decide +kernel
theorem dX6_tells_5 : decode cX6_tells 5 = .ok (.astore_n 3, 1) := by decide +kernel
theorem dX6_tells_6 : decode cX6_tells 6 = .ok (.iload_n 2, 1) := by decide +kernel
theorem dX6_tells_7 : decode cX6_tells 7 = .ok (.lookupswitch 48 #[(102, 38), (114, 33), (116, 43)], 33) := by decide +kernel
theorem dX6_tells_40 : decode cX6_tells 40 = .ok (.aload_n 3, 1) := by decide +kernel
theorem dX6_tells_41 : decode cX6_tells 41 = .ok (.getfield 97, 3) := by decide +kernel
theorem dX6_tells_44 : decode cX6_tells 44 = .ok (.ireturn, 1) := by decide +kernel
theorem dX6_tells_45 : decode cX6_tells 45 = .ok (.aload_n 3, 1) := by decide +kernel
theorem dX6_tells_46 : decode cX6_tells 46 = .ok (.getfield 100, 3) := by decide +kernel
theorem dX6_tells_49 : decode cX6_tells 49 = .ok (.ireturn, 1) := by decide +kernel
theorem dX6_tells_50 : decode cX6_tells 50 = .ok (.aload_n 3, 1) := by decide +kernel
theorem dX6_tells_51 : decode cX6_tells 51 = .ok (.getfield 103, 3) := by decide +kernel
theorem dX6_tells_54 : decode cX6_tells 54 = .ok (.ireturn, 1) := by decide +kernel
theorem dX6_tells_55 : decode cX6_tells 55 = .ok (.new 65, 3) := by decide +kernel
theorem dX6_tells_58 : decode cX6_tells 58 = .ok (.dup, 1) := by decide +kernel
theorem dX6_tells_59 : decode cX6_tells 59 = .ok (.ldc 106, 2) := by decide +kernel
theorem dX6_tells_61 : decode cX6_tells 61 = .ok (.invokespecial 69, 3) := by decide +kernel
theorem dX6_tells_64 : decode cX6_tells 64 = .ok (.athrow, 1) := by decide +kernel
theorem dX6_fits_0 : decode cX6_fits 0 = .ok (.iload_n 1, 1) := by decide +kernel
theorem dX6_fits_1 : decode cX6_fits 1 = .ok (.invokestatic 34, 3) := by decide +kernel
theorem dX6_fits_4 : decode cX6_fits 4 = .ok (.istore_n 3, 1) := by decide +kernel
theorem dX6_fits_5 : decode cX6_fits 5 = .ok (.aload_n 0, 1) := by decide +kernel
theorem dX6_fits_6 : decode cX6_fits 6 = .ok (.iload_n 3, 1) := by decide +kernel
theorem dX6_fits_7 : decode cX6_fits 7 = .ok (.aload_n 0, 1) := by decide +kernel
theorem dX6_fits_8 : decode cX6_fits 8 = .ok (.iload_n 2, 1) := by decide +kernel
theorem dX6_fits_9 : decode cX6_fits 9 = .ok (.invokevirtual 89, 3) := by decide +kernel
theorem dX6_fits_12 : decode cX6_fits 12 = .ok (.invokevirtual 108, 3) := by decide +kernel
theorem dX6_fits_15 : decode cX6_fits 15 = .ok (.ireturn, 1) := by decide +kernel
theorem dX6_asks_0 : decode cX6_asks 0 = .ok (.iload_n 1, 1) := by decide +kernel
theorem dX6_asks_1 : decode cX6_asks 1 = .ok (.invokestatic 34, 3) := by decide +kernel
theorem dX6_asks_4 : decode cX6_asks 4 = .ok (.istore 5, 2) := by decide +kernel
theorem dX6_asks_6 : decode cX6_asks 6 = .ok (.iload_n 2, 1) := by decide +kernel
theorem dX6_asks_7 : decode cX6_asks 7 = .ok (.invokestatic 112, 3) := by decide +kernel
theorem dX6_asks_10 : decode cX6_asks 10 = .ok (.aload_n 0, 1) := by decide +kernel
theorem dX6_asks_11 : decode cX6_asks 11 = .ok (.iload_n 3, 1) := by decide +kernel
theorem dX6_asks_12 : decode cX6_asks 12 = .ok (.invokevirtual 89, 3) := by decide +kernel
theorem dX6_asks_15 : decode cX6_asks 15 = .ok (.astore 6, 2) := by decide +kernel
theorem dX6_asks_17 : decode cX6_asks 17 = .ok (.aload_n 0, 1) := by decide +kernel
theorem dX6_asks_18 : decode cX6_asks 18 = .ok (.iload 4, 2) := by decide +kernel
theorem dX6_asks_20 : decode cX6_asks 20 = .ok (.invokevirtual 89, 3) := by decide +kernel
theorem dX6_asks_23 : decode cX6_asks 23 = .ok (.astore 7, 2) := by decide +kernel
theorem dX6_asks_25 : decode cX6_asks 25 = .ok (.iload_n 2, 1) := by decide +kernel
theorem dX6_asks_26 : decode cX6_asks 26 = .ok (.aload_n 0, 1) := by decide +kernel
theorem dX6_asks_27 : decode cX6_asks 27 = .ok (.iload 5, 2) := by decide +kernel
theorem dX6_asks_29 : decode cX6_asks 29 = .ok (.aload 6, 2) := by decide +kernel
theorem dX6_asks_31 : decode cX6_asks 31 = .ok (.invokevirtual 116, 3) := by decide +kernel
theorem dX6_asks_34 : decode cX6_asks 34 = .ok (.aload_n 0, 1) := by decide +kernel
theorem dX6_asks_35 : decode cX6_asks 35 = .ok (.iload 5, 2) := by decide +kernel
theorem dX6_asks_37 : decode cX6_asks 37 = .ok (.aload 7, 2) := by decide +kernel
theorem dX6_asks_39 : decode cX6_asks 39 = .ok (.invokevirtual 116, 3) := by decide +kernel
theorem dX6_asks_42 : decode cX6_asks 42 = .ok (.invokestatic 120, 3) := by decide +kernel
theorem dX6_asks_45 : decode cX6_asks 45 = .ok (.ireturn, 1) := by decide +kernel
theorem dX6_asksRows_0 : decode cX6_asksRows 0 = .ok (.iload_n 1, 1) := by decide +kernel
theorem dX6_asksRows_1 : decode cX6_asksRows 1 = .ok (.invokestatic 34, 3) := by decide +kernel
theorem dX6_asksRows_4 : decode cX6_asksRows 4 = .ok (.istore 5, 2) := by decide +kernel
theorem dX6_asksRows_6 : decode cX6_asksRows 6 = .ok (.iload_n 2, 1) := by decide +kernel
theorem dX6_asksRows_7 : decode cX6_asksRows 7 = .ok (.invokestatic 112, 3) := by decide +kernel
theorem dX6_asksRows_10 : decode cX6_asksRows 10 = .ok (.aload_n 0, 1) := by decide +kernel
theorem dX6_asksRows_11 : decode cX6_asksRows 11 = .ok (.iload 5, 2) := by decide +kernel
theorem dX6_asksRows_13 : decode cX6_asksRows 13 = .ok (.iload_n 3, 1) := by decide +kernel
theorem dX6_asksRows_14 : decode cX6_asksRows 14 = .ok (.invokevirtual 42, 3) := by decide +kernel
theorem dX6_asksRows_17 : decode cX6_asksRows 17 = .ok (.astore 6, 2) := by decide +kernel
theorem dX6_asksRows_19 : decode cX6_asksRows 19 = .ok (.aload_n 0, 1) := by decide +kernel
theorem dX6_asksRows_20 : decode cX6_asksRows 20 = .ok (.iload 5, 2) := by decide +kernel
theorem dX6_asksRows_22 : decode cX6_asksRows 22 = .ok (.iload 4, 2) := by decide +kernel
theorem dX6_asksRows_24 : decode cX6_asksRows 24 = .ok (.invokevirtual 42, 3) := by decide +kernel
theorem dX6_asksRows_27 : decode cX6_asksRows 27 = .ok (.astore 7, 2) := by decide +kernel
theorem dX6_asksRows_29 : decode cX6_asksRows 29 = .ok (.iload_n 2, 1) := by decide +kernel
theorem dX6_asksRows_30 : decode cX6_asksRows 30 = .ok (.new 124, 3) := by decide +kernel
theorem dX6_asksRows_33 : decode cX6_asksRows 33 = .ok (.dup, 1) := by decide +kernel
theorem dX6_asksRows_34 : decode cX6_asksRows 34 = .ok (.aload 6, 2) := by decide +kernel
theorem dX6_asksRows_36 : decode cX6_asksRows 36 = .ok (.getfield 57, 3) := by decide +kernel
theorem dX6_asksRows_39 : decode cX6_asksRows 39 = .ok (.iconst 0, 1) := by decide +kernel
theorem dX6_asksRows_40 : decode cX6_asksRows 40 = .ok (.aload 6, 2) := by decide +kernel
theorem dX6_asksRows_42 : decode cX6_asksRows 42 = .ok (.getfield 46, 3) := by decide +kernel
theorem dX6_asksRows_45 : decode cX6_asksRows 45 = .ok (.invokespecial 126, 3) := by decide +kernel
theorem dX6_asksRows_48 : decode cX6_asksRows 48 = .ok (.new 124, 3) := by decide +kernel
theorem dX6_asksRows_51 : decode cX6_asksRows 51 = .ok (.dup, 1) := by decide +kernel
theorem dX6_asksRows_52 : decode cX6_asksRows 52 = .ok (.aload 7, 2) := by decide +kernel
theorem dX6_asksRows_54 : decode cX6_asksRows 54 = .ok (.getfield 57, 3) := by decide +kernel
theorem dX6_asksRows_57 : decode cX6_asksRows 57 = .ok (.iconst 0, 1) := by decide +kernel
theorem dX6_asksRows_58 : decode cX6_asksRows 58 = .ok (.aload 7, 2) := by decide +kernel
theorem dX6_asksRows_60 : decode cX6_asksRows 60 = .ok (.getfield 46, 3) := by decide +kernel
theorem dX6_asksRows_63 : decode cX6_asksRows 63 = .ok (.invokespecial 126, 3) := by decide +kernel
theorem dX6_asksRows_66 : decode cX6_asksRows 66 = .ok (.invokestatic 120, 3) := by decide +kernel
theorem dX6_asksRows_69 : decode cX6_asksRows 69 = .ok (.ireturn, 1) := by decide +kernel
theorem dX6_refused_0 : decode cX6_refused 0 = .ok (.iload_n 1, 1) := by decide +kernel
theorem dX6_refused_1 : decode cX6_refused 1 = .ok (.invokestatic 34, 3) := by decide +kernel
theorem dX6_refused_4 : decode cX6_refused 4 = .ok (.istore 6, 2) := by decide +kernel
theorem dX6_refused_6 : decode cX6_refused 6 = .ok (.iload_n 2, 1) := by decide +kernel
theorem dX6_refused_7 : decode cX6_refused 7 = .ok (.invokestatic 112, 3) := by decide +kernel
theorem dX6_refused_10 : decode cX6_refused 10 = .ok (.aload_n 0, 1) := by decide +kernel
theorem dX6_refused_11 : decode cX6_refused 11 = .ok (.iload 6, 2) := by decide +kernel
theorem dX6_refused_13 : decode cX6_refused 13 = .ok (.iload_n 3, 1) := by decide +kernel
theorem dX6_refused_14 : decode cX6_refused 14 = .ok (.invokevirtual 42, 3) := by decide +kernel
theorem dX6_refused_17 : decode cX6_refused 17 = .ok (.astore 7, 2) := by decide +kernel
theorem dX6_refused_19 : decode cX6_refused 19 = .ok (.iload 4, 2) := by decide +kernel
theorem dX6_refused_21 : decode cX6_refused 21 = .ok (.iload 5, 2) := by decide +kernel
theorem dX6_refused_23 : decode cX6_refused 23 = .ok (.if_icmp .le 7, 3) := by decide +kernel
theorem dX6_refused_26 : decode cX6_refused 26 = .ok (.iconst 1, 1) := by decide +kernel
theorem dX6_refused_27 : decode cX6_refused 27 = .ok (.goto 4, 3) := by decide +kernel
theorem dX6_refused_30 : decode cX6_refused 30 = .ok (.iconst 0, 1) := by decide +kernel
theorem dX6_refused_31 : decode cX6_refused 31 = .ok (.istore 8, 2) := by decide +kernel
theorem dX6_refused_33 : decode cX6_refused 33 = .ok (.iload 4, 2) := by decide +kernel
theorem dX6_refused_35 : decode cX6_refused 35 = .ok (.ifCond .lt 13, 3) := by decide +kernel
theorem dX6_refused_38 : decode cX6_refused 38 = .ok (.iload 5, 2) := by decide +kernel
theorem dX6_refused_40 : decode cX6_refused 40 = .ok (.aload 7, 2) := by decide +kernel
theorem dX6_refused_42 : decode cX6_refused 42 = .ok (.getfield 46, 3) := by decide +kernel
theorem dX6_refused_45 : decode cX6_refused 45 = .ok (.if_icmp .le 7, 3) := by decide +kernel
theorem dX6_refused_48 : decode cX6_refused 48 = .ok (.iconst 2, 1) := by decide +kernel
theorem dX6_refused_49 : decode cX6_refused 49 = .ok (.goto 4, 3) := by decide +kernel
theorem dX6_refused_52 : decode cX6_refused 52 = .ok (.iconst 0, 1) := by decide +kernel
theorem dX6_refused_53 : decode cX6_refused 53 = .ok (.istore 9, 2) := by decide +kernel
theorem dX6_refused_55 : decode cX6_refused 55 = .ok (.iload 8, 2) := by decide +kernel
theorem dX6_refused_57 : decode cX6_refused 57 = .ok (.iload 9, 2) := by decide +kernel
theorem dX6_refused_59 : decode cX6_refused 59 = .ok (.iadd, 1) := by decide +kernel
theorem dX6_refused_60 : decode cX6_refused 60 = .ok (.ireturn, 1) := by decide +kernel
theorem dX6_common_0 : decode cX6_common 0 = .ok (.iload_n 1, 1) := by decide +kernel
theorem dX6_common_1 : decode cX6_common 1 = .ok (.invokestatic 34, 3) := by decide +kernel
theorem dX6_common_4 : decode cX6_common 4 = .ok (.istore 4, 2) := by decide +kernel
theorem dX6_common_6 : decode cX6_common 6 = .ok (.aload_n 0, 1) := by decide +kernel
theorem dX6_common_7 : decode cX6_common 7 = .ok (.iload_n 2, 1) := by decide +kernel
theorem dX6_common_8 : decode cX6_common 8 = .ok (.invokevirtual 89, 3) := by decide +kernel
theorem dX6_common_11 : decode cX6_common 11 = .ok (.astore 5, 2) := by decide +kernel
theorem dX6_common_13 : decode cX6_common 13 = .ok (.aload_n 0, 1) := by decide +kernel
theorem dX6_common_14 : decode cX6_common 14 = .ok (.iload_n 3, 1) := by decide +kernel
theorem dX6_common_15 : decode cX6_common 15 = .ok (.invokevirtual 89, 3) := by decide +kernel
theorem dX6_common_18 : decode cX6_common 18 = .ok (.astore 6, 2) := by decide +kernel
theorem dX6_common_20 : decode cX6_common 20 = .ok (.aload_n 0, 1) := by decide +kernel
theorem dX6_common_21 : decode cX6_common 21 = .ok (.iload 4, 2) := by decide +kernel
theorem dX6_common_23 : decode cX6_common 23 = .ok (.aload 5, 2) := by decide +kernel
theorem dX6_common_25 : decode cX6_common 25 = .ok (.invokevirtual 116, 3) := by decide +kernel
theorem dX6_common_28 : decode cX6_common 28 = .ok (.aload_n 0, 1) := by decide +kernel
theorem dX6_common_29 : decode cX6_common 29 = .ok (.iload 4, 2) := by decide +kernel
theorem dX6_common_31 : decode cX6_common 31 = .ok (.aload 6, 2) := by decide +kernel
theorem dX6_common_33 : decode cX6_common 33 = .ok (.invokevirtual 116, 3) := by decide +kernel
theorem dX6_common_36 : decode cX6_common 36 = .ok (.invokestatic 129, 3) := by decide +kernel
theorem dX6_common_39 : decode cX6_common 39 = .ok (.ireturn, 1) := by decide +kernel
theorem dX6_rank_0 : decode cX6_rank 0 = .ok (.iload_n 1, 1) := by decide +kernel
theorem dX6_rank_1 : decode cX6_rank 1 = .ok (.invokestatic 34, 3) := by decide +kernel
theorem dX6_rank_4 : decode cX6_rank 4 = .ok (.istore 4, 2) := by decide +kernel
theorem dX6_rank_6 : decode cX6_rank 6 = .ok (.iload_n 2, 1) := by decide +kernel
theorem dX6_rank_7 : decode cX6_rank 7 = .ok (.invokestatic 133, 3) := by decide +kernel
theorem dX6_rank_10 : decode cX6_rank 10 = .ok (.istore 5, 2) := by decide +kernel
theorem dX6_rank_12 : decode cX6_rank 12 = .ok (.aload_n 0, 1) := by decide +kernel
theorem dX6_rank_13 : decode cX6_rank 13 = .ok (.iload 4, 2) := by decide +kernel
theorem dX6_rank_15 : decode cX6_rank 15 = .ok (.aload_n 0, 1) := by decide +kernel
theorem dX6_rank_16 : decode cX6_rank 16 = .ok (.iload_n 3, 1) := by decide +kernel
theorem dX6_rank_17 : decode cX6_rank 17 = .ok (.invokevirtual 89, 3) := by decide +kernel
theorem dX6_rank_20 : decode cX6_rank 20 = .ok (.invokevirtual 116, 3) := by decide +kernel
theorem dX6_rank_23 : decode cX6_rank 23 = .ok (.astore 6, 2) := by decide +kernel
theorem dX6_rank_25 : decode cX6_rank 25 = .ok (.iconst 0, 1) := by decide +kernel
theorem dX6_rank_26 : decode cX6_rank 26 = .ok (.istore 7, 2) := by decide +kernel
theorem dX6_rank_28 : decode cX6_rank 28 = .ok (.aload_n 0, 1) := by decide +kernel
theorem dX6_rank_29 : decode cX6_rank 29 = .ok (.getfield 17, 3) := by decide +kernel
theorem dX6_rank_32 : decode cX6_rank 32 = .ok (.astore 8, 2) := by decide +kernel
theorem dX6_rank_34 : decode cX6_rank 34 = .ok (.aload 8, 2) := by decide +kernel
theorem dX6_rank_36 : decode cX6_rank 36 = .ok (.arraylength, 1) := by decide +kernel
theorem dX6_rank_37 : decode cX6_rank 37 = .ok (.istore 9, 2) := by decide +kernel
theorem dX6_rank_39 : decode cX6_rank 39 = .ok (.iconst 0, 1) := by decide +kernel
theorem dX6_rank_40 : decode cX6_rank 40 = .ok (.istore 10, 2) := by decide +kernel
theorem dX6_rank_42 : decode cX6_rank 42 = .ok (.iload 10, 2) := by decide +kernel
theorem dX6_rank_44 : decode cX6_rank 44 = .ok (.iload 9, 2) := by decide +kernel
theorem dX6_rank_46 : decode cX6_rank 46 = .ok (.if_icmp .ge 48, 3) := by decide +kernel
theorem dX6_rank_49 : decode cX6_rank 49 = .ok (.aload 8, 2) := by decide +kernel
theorem dX6_rank_51 : decode cX6_rank 51 = .ok (.iload 10, 2) := by decide +kernel
theorem dX6_rank_53 : decode cX6_rank 53 = .ok (.aaload, 1) := by decide +kernel
theorem dX6_rank_54 : decode cX6_rank 54 = .ok (.astore 11, 2) := by decide +kernel
theorem dX6_rank_56 : decode cX6_rank 56 = .ok (.aload_n 0, 1) := by decide +kernel
theorem dX6_rank_57 : decode cX6_rank 57 = .ok (.iload 4, 2) := by decide +kernel
theorem dX6_rank_59 : decode cX6_rank 59 = .ok (.aload 11, 2) := by decide +kernel
theorem dX6_rank_61 : decode cX6_rank 61 = .ok (.invokevirtual 108, 3) := by decide +kernel
theorem dX6_rank_64 : decode cX6_rank 64 = .ok (.ifCond .eq 24, 3) := by decide +kernel
theorem dX6_rank_67 : decode cX6_rank 67 = .ok (.aload_n 0, 1) := by decide +kernel
theorem dX6_rank_68 : decode cX6_rank 68 = .ok (.iload 4, 2) := by decide +kernel
theorem dX6_rank_70 : decode cX6_rank 70 = .ok (.aload 11, 2) := by decide +kernel
theorem dX6_rank_72 : decode cX6_rank 72 = .ok (.invokevirtual 137, 3) := by decide +kernel
theorem dX6_rank_75 : decode cX6_rank 75 = .ok (.aload 6, 2) := by decide +kernel
theorem dX6_rank_77 : decode cX6_rank 77 = .ok (.iload 5, 2) := by decide +kernel
theorem dX6_rank_79 : decode cX6_rank 79 = .ok (.invokestatic 140, 3) := by decide +kernel
theorem dX6_rank_82 : decode cX6_rank 82 = .ok (.ifCond .ge 6, 3) := by decide +kernel
theorem dX6_rank_85 : decode cX6_rank 85 = .ok (.iinc 7 1, 3) := by decide +kernel
theorem dX6_rank_88 : decode cX6_rank 88 = .ok (.iinc 10 1, 3) := by decide +kernel
theorem dX6_rank_91 : decode cX6_rank 91 = .ok (.goto (-49), 3) := by decide +kernel
theorem dX6_rank_94 : decode cX6_rank 94 = .ok (.iload 7, 2) := by decide +kernel
theorem dX6_rank_96 : decode cX6_rank 96 = .ok (.ireturn, 1) := by decide +kernel
theorem dX6_sort_0 : decode cX6_sort 0 = .ok (.iload_n 1, 1) := by decide +kernel
theorem dX6_sort_1 : decode cX6_sort 1 = .ok (.invokestatic 34, 3) := by decide +kernel
theorem dX6_sort_4 : decode cX6_sort 4 = .ok (.istore_n 3, 1) := by decide +kernel
theorem dX6_sort_5 : decode cX6_sort 5 = .ok (.iload_n 2, 1) := by decide +kernel
theorem dX6_sort_6 : decode cX6_sort 6 = .ok (.invokestatic 133, 3) := by decide +kernel
theorem dX6_sort_9 : decode cX6_sort 9 = .ok (.istore 4, 2) := by decide +kernel
theorem dX6_sort_11 : decode cX6_sort 11 = .ok (.aload_n 0, 1) := by decide +kernel
theorem dX6_sort_12 : decode cX6_sort 12 = .ok (.iconst 0, 1) := by decide +kernel
theorem dX6_sort_13 : decode cX6_sort 13 = .ok (.putfield 144, 3) := by decide +kernel
theorem dX6_sort_16 : decode cX6_sort 16 = .ok (.iconst 0, 1) := by decide +kernel
theorem dX6_sort_17 : decode cX6_sort 17 = .ok (.istore 5, 2) := by decide +kernel
theorem dX6_sort_19 : decode cX6_sort 19 = .ok (.iload 5, 2) := by decide +kernel
theorem dX6_sort_21 : decode cX6_sort 21 = .ok (.bipush 12, 2) := by decide +kernel
theorem dX6_sort_23 : decode cX6_sort 23 = .ok (.if_icmp .ge 33, 3) := by decide +kernel
theorem dX6_sort_26 : decode cX6_sort 26 = .ok (.aload_n 0, 1) := by decide +kernel
theorem dX6_sort_27 : decode cX6_sort 27 = .ok (.iload_n 3, 1) := by decide +kernel
theorem dX6_sort_28 : decode cX6_sort 28 = .ok (.aload_n 0, 1) := by decide +kernel
theorem dX6_sort_29 : decode cX6_sort 29 = .ok (.getfield 17, 3) := by decide +kernel
theorem dX6_sort_32 : decode cX6_sort 32 = .ok (.iload 5, 2) := by decide +kernel
theorem dX6_sort_34 : decode cX6_sort 34 = .ok (.aaload, 1) := by decide +kernel
theorem dX6_sort_35 : decode cX6_sort 35 = .ok (.invokevirtual 108, 3) := by decide +kernel
theorem dX6_sort_38 : decode cX6_sort 38 = .ok (.ifCond .eq 12, 3) := by decide +kernel
theorem dX6_sort_41 : decode cX6_sort 41 = .ok (.aload_n 0, 1) := by decide +kernel
theorem dX6_sort_42 : decode cX6_sort 42 = .ok (.iload_n 3, 1) := by decide +kernel
theorem dX6_sort_43 : decode cX6_sort 43 = .ok (.iload 4, 2) := by decide +kernel
theorem dX6_sort_45 : decode cX6_sort 45 = .ok (.iload 5, 2) := by decide +kernel
theorem dX6_sort_47 : decode cX6_sort 47 = .ok (.invokevirtual 147, 3) := by decide +kernel
theorem dX6_sort_50 : decode cX6_sort 50 = .ok (.iinc 5 1, 3) := by decide +kernel
theorem dX6_sort_53 : decode cX6_sort 53 = .ok (.goto (-34), 3) := by decide +kernel
theorem dX6_sort_56 : decode cX6_sort 56 = .ok (.aload_n 0, 1) := by decide +kernel
theorem dX6_sort_57 : decode cX6_sort 57 = .ok (.getfield 144, 3) := by decide +kernel
theorem dX6_sort_60 : decode cX6_sort 60 = .ok (.ireturn, 1) := by decide +kernel
theorem dX6_sorted_0 : decode cX6_sorted 0 = .ok (.iload_n 1, 1) := by decide +kernel
theorem dX6_sorted_1 : decode cX6_sorted 1 = .ok (.aload_n 0, 1) := by decide +kernel
theorem dX6_sorted_2 : decode cX6_sorted 2 = .ok (.getfield 144, 3) := by decide +kernel
theorem dX6_sorted_5 : decode cX6_sorted 5 = .ok (.invokestatic 61, 3) := by decide +kernel
theorem dX6_sorted_8 : decode cX6_sorted 8 = .ok (.aload_n 0, 1) := by decide +kernel
theorem dX6_sorted_9 : decode cX6_sorted 9 = .ok (.getfield 21, 3) := by decide +kernel
theorem dX6_sorted_12 : decode cX6_sorted 12 = .ok (.iload_n 1, 1) := by decide +kernel
theorem dX6_sorted_13 : decode cX6_sorted 13 = .ok (.iaload, 1) := by decide +kernel
theorem dX6_sorted_14 : decode cX6_sorted 14 = .ok (.ireturn, 1) := by decide +kernel
theorem dX6_ending_0 : decode cX6_ending 0 = .ok (.iload_n 1, 1) := by decide +kernel
theorem dX6_ending_1 : decode cX6_ending 1 = .ok (.invokestatic 34, 3) := by decide +kernel
theorem dX6_ending_4 : decode cX6_ending 4 = .ok (.istore 5, 2) := by decide +kernel
theorem dX6_ending_6 : decode cX6_ending 6 = .ok (.iload_n 2, 1) := by decide +kernel
theorem dX6_ending_7 : decode cX6_ending 7 = .ok (.invokestatic 133, 3) := by decide +kernel
theorem dX6_ending_10 : decode cX6_ending 10 = .ok (.istore 6, 2) := by decide +kernel
theorem dX6_ending_12 : decode cX6_ending 12 = .ok (.aload_n 0, 1) := by decide +kernel
theorem dX6_ending_13 : decode cX6_ending 13 = .ok (.iload 5, 2) := by decide +kernel
theorem dX6_ending_15 : decode cX6_ending 15 = .ok (.iload_n 3, 1) := by decide +kernel
theorem dX6_ending_16 : decode cX6_ending 16 = .ok (.invokevirtual 42, 3) := by decide +kernel
theorem dX6_ending_19 : decode cX6_ending 19 = .ok (.astore 7, 2) := by decide +kernel
theorem dX6_ending_21 : decode cX6_ending 21 = .ok (.iload 4, 2) := by decide +kernel
theorem dX6_ending_23 : decode cX6_ending 23 = .ok (.aload 7, 2) := by decide +kernel
theorem dX6_ending_25 : decode cX6_ending 25 = .ok (.getfield 46, 3) := by decide +kernel
theorem dX6_ending_28 : decode cX6_ending 28 = .ok (.invokestatic 61, 3) := by decide +kernel
theorem dX6_ending_31 : decode cX6_ending 31 = .ok (.aload_n 0, 1) := by decide +kernel
theorem dX6_ending_32 : decode cX6_ending 32 = .ok (.getfield 28, 3) := by decide +kernel
theorem dX6_ending_35 : decode cX6_ending 35 = .ok (.aload 7, 2) := by decide +kernel
theorem dX6_ending_37 : decode cX6_ending 37 = .ok (.iload 6, 2) := by decide +kernel
theorem dX6_ending_39 : decode cX6_ending 39 = .ok (.invokevirtual 151, 3) := by decide +kernel
theorem dX6_ending_42 : decode cX6_ending 42 = .ok (.aload_n 0, 1) := by decide +kernel
theorem dX6_ending_43 : decode cX6_ending 43 = .ok (.getfield 28, 3) := by decide +kernel
theorem dX6_ending_46 : decode cX6_ending 46 = .ok (.invokevirtual 155, 3) := by decide +kernel
theorem dX6_ending_49 : decode cX6_ending 49 = .ok (.aload_n 0, 1) := by decide +kernel
theorem dX6_ending_50 : decode cX6_ending 50 = .ok (.getfield 28, 3) := by decide +kernel
theorem dX6_ending_53 : decode cX6_ending 53 = .ok (.getfield 158, 3) := by decide +kernel
theorem dX6_ending_56 : decode cX6_ending 56 = .ok (.iload 4, 2) := by decide +kernel
theorem dX6_ending_58 : decode cX6_ending 58 = .ok (.iaload, 1) := by decide +kernel
theorem dX6_ending_59 : decode cX6_ending 59 = .ok (.ireturn, 1) := by decide +kernel
theorem dX6_distinct_0 : decode cX6_distinct 0 = .ok (.aload_n 0, 1) := by decide +kernel
theorem dX6_distinct_1 : decode cX6_distinct 1 = .ok (.getfield 28, 3) := by decide +kernel
theorem dX6_distinct_4 : decode cX6_distinct 4 = .ok (.aload_n 0, 1) := by decide +kernel
theorem dX6_distinct_5 : decode cX6_distinct 5 = .ok (.iload_n 1, 1) := by decide +kernel
theorem dX6_distinct_6 : decode cX6_distinct 6 = .ok (.invokestatic 34, 3) := by decide +kernel
theorem dX6_distinct_9 : decode cX6_distinct 9 = .ok (.iload_n 2, 1) := by decide +kernel
theorem dX6_distinct_10 : decode cX6_distinct 10 = .ok (.invokevirtual 42, 3) := by decide +kernel
theorem dX6_distinct_13 : decode cX6_distinct 13 = .ok (.iconst 0, 1) := by decide +kernel
theorem dX6_distinct_14 : decode cX6_distinct 14 = .ok (.invokevirtual 151, 3) := by decide +kernel
theorem dX6_distinct_17 : decode cX6_distinct 17 = .ok (.aload_n 0, 1) := by decide +kernel
theorem dX6_distinct_18 : decode cX6_distinct 18 = .ok (.getfield 28, 3) := by decide +kernel
theorem dX6_distinct_21 : decode cX6_distinct 21 = .ok (.invokevirtual 161, 3) := by decide +kernel
theorem dX6_distinct_24 : decode cX6_distinct 24 = .ok (.ireturn, 1) := by decide +kernel
theorem dX6_longest_0 : decode cX6_longest 0 = .ok (.aload_n 0, 1) := by decide +kernel
theorem dX6_longest_1 : decode cX6_longest 1 = .ok (.getfield 28, 3) := by decide +kernel
theorem dX6_longest_4 : decode cX6_longest 4 = .ok (.aload_n 0, 1) := by decide +kernel
theorem dX6_longest_5 : decode cX6_longest 5 = .ok (.iload_n 1, 1) := by decide +kernel
theorem dX6_longest_6 : decode cX6_longest 6 = .ok (.invokestatic 34, 3) := by decide +kernel
theorem dX6_longest_9 : decode cX6_longest 9 = .ok (.iload_n 2, 1) := by decide +kernel
theorem dX6_longest_10 : decode cX6_longest 10 = .ok (.invokevirtual 42, 3) := by decide +kernel
theorem dX6_longest_13 : decode cX6_longest 13 = .ok (.iconst 0, 1) := by decide +kernel
theorem dX6_longest_14 : decode cX6_longest 14 = .ok (.invokevirtual 151, 3) := by decide +kernel
theorem dX6_longest_17 : decode cX6_longest 17 = .ok (.aload_n 0, 1) := by decide +kernel
theorem dX6_longest_18 : decode cX6_longest 18 = .ok (.getfield 28, 3) := by decide +kernel
theorem dX6_longest_21 : decode cX6_longest 21 = .ok (.invokevirtual 165, 3) := by decide +kernel
theorem dX6_longest_24 : decode cX6_longest 24 = .ok (.ireturn, 1) := by decide +kernel
theorem dX6_occurs_0 : decode cX6_occurs 0 = .ok (.iload_n 1, 1) := by decide +kernel
theorem dX6_occurs_1 : decode cX6_occurs 1 = .ok (.invokestatic 34, 3) := by decide +kernel
theorem dX6_occurs_4 : decode cX6_occurs 4 = .ok (.istore 4, 2) := by decide +kernel
theorem dX6_occurs_6 : decode cX6_occurs 6 = .ok (.aload_n 0, 1) := by decide +kernel
theorem dX6_occurs_7 : decode cX6_occurs 7 = .ok (.iload 4, 2) := by decide +kernel
theorem dX6_occurs_9 : decode cX6_occurs 9 = .ok (.iload_n 2, 1) := by decide +kernel
theorem dX6_occurs_10 : decode cX6_occurs 10 = .ok (.invokevirtual 42, 3) := by decide +kernel
theorem dX6_occurs_13 : decode cX6_occurs 13 = .ok (.astore 5, 2) := by decide +kernel
theorem dX6_occurs_15 : decode cX6_occurs 15 = .ok (.aload_n 0, 1) := by decide +kernel
theorem dX6_occurs_16 : decode cX6_occurs 16 = .ok (.iload 4, 2) := by decide +kernel
theorem dX6_occurs_18 : decode cX6_occurs 18 = .ok (.aload_n 0, 1) := by decide +kernel
theorem dX6_occurs_19 : decode cX6_occurs 19 = .ok (.iload_n 3, 1) := by decide +kernel
theorem dX6_occurs_20 : decode cX6_occurs 20 = .ok (.invokevirtual 89, 3) := by decide +kernel
theorem dX6_occurs_23 : decode cX6_occurs 23 = .ok (.invokevirtual 116, 3) := by decide +kernel
theorem dX6_occurs_26 : decode cX6_occurs 26 = .ok (.astore 6, 2) := by decide +kernel
theorem dX6_occurs_28 : decode cX6_occurs 28 = .ok (.iconst 0, 1) := by decide +kernel
theorem dX6_occurs_29 : decode cX6_occurs 29 = .ok (.istore 7, 2) := by decide +kernel
theorem dX6_occurs_31 : decode cX6_occurs 31 = .ok (.iconst 0, 1) := by decide +kernel
theorem dX6_occurs_32 : decode cX6_occurs 32 = .ok (.istore 8, 2) := by decide +kernel
theorem dX6_occurs_34 : decode cX6_occurs 34 = .ok (.iload 8, 2) := by decide +kernel
theorem dX6_occurs_36 : decode cX6_occurs 36 = .ok (.aload 6, 2) := by decide +kernel
theorem dX6_occurs_38 : decode cX6_occurs 38 = .ok (.invokevirtual 168, 3) := by decide +kernel
theorem dX6_occurs_41 : decode cX6_occurs 41 = .ok (.iadd, 1) := by decide +kernel
theorem dX6_occurs_42 : decode cX6_occurs 42 = .ok (.aload 5, 2) := by decide +kernel
theorem dX6_occurs_44 : decode cX6_occurs 44 = .ok (.getfield 46, 3) := by decide +kernel
theorem dX6_occurs_47 : decode cX6_occurs 47 = .ok (.if_icmp .gt 44, 3) := by decide +kernel
theorem dX6_occurs_50 : decode cX6_occurs 50 = .ok (.new 124, 3) := by decide +kernel
theorem dX6_occurs_53 : decode cX6_occurs 53 = .ok (.dup, 1) := by decide +kernel
theorem dX6_occurs_54 : decode cX6_occurs 54 = .ok (.aload 5, 2) := by decide +kernel
theorem dX6_occurs_56 : decode cX6_occurs 56 = .ok (.getfield 57, 3) := by decide +kernel
theorem dX6_occurs_59 : decode cX6_occurs 59 = .ok (.iload 8, 2) := by decide +kernel
theorem dX6_occurs_61 : decode cX6_occurs 61 = .ok (.aload 5, 2) := by decide +kernel
theorem dX6_occurs_63 : decode cX6_occurs 63 = .ok (.getfield 46, 3) := by decide +kernel
theorem dX6_occurs_66 : decode cX6_occurs 66 = .ok (.invokespecial 126, 3) := by decide +kernel
theorem dX6_occurs_69 : decode cX6_occurs 69 = .ok (.aload 6, 2) := by decide +kernel
theorem dX6_occurs_71 : decode cX6_occurs 71 = .ok (.invokestatic 129, 3) := by decide +kernel
theorem dX6_occurs_74 : decode cX6_occurs 74 = .ok (.aload 6, 2) := by decide +kernel
theorem dX6_occurs_76 : decode cX6_occurs 76 = .ok (.invokevirtual 168, 3) := by decide +kernel
theorem dX6_occurs_79 : decode cX6_occurs 79 = .ok (.if_icmp .ne 6, 3) := by decide +kernel
theorem dX6_occurs_82 : decode cX6_occurs 82 = .ok (.iinc 7 1, 3) := by decide +kernel
theorem dX6_occurs_85 : decode cX6_occurs 85 = .ok (.iinc 8 1, 3) := by decide +kernel
theorem dX6_occurs_88 : decode cX6_occurs 88 = .ok (.goto (-54), 3) := by decide +kernel
theorem dX6_occurs_91 : decode cX6_occurs 91 = .ok (.iload 7, 2) := by decide +kernel
theorem dX6_occurs_93 : decode cX6_occurs 93 = .ok (.ireturn, 1) := by decide +kernel
theorem dX6_isPeriod_0 : decode cX6_isPeriod 0 = .ok (.aload_n 0, 1) := by decide +kernel
theorem dX6_isPeriod_1 : decode cX6_isPeriod 1 = .ok (.iload_n 1, 1) := by decide +kernel
theorem dX6_isPeriod_2 : decode cX6_isPeriod 2 = .ok (.invokestatic 34, 3) := by decide +kernel
theorem dX6_isPeriod_5 : decode cX6_isPeriod 5 = .ok (.iload_n 2, 1) := by decide +kernel
theorem dX6_isPeriod_6 : decode cX6_isPeriod 6 = .ok (.invokevirtual 42, 3) := by decide +kernel
theorem dX6_isPeriod_9 : decode cX6_isPeriod 9 = .ok (.astore 4, 2) := by decide +kernel
theorem dX6_isPeriod_11 : decode cX6_isPeriod 11 = .ok (.iload_n 3, 1) := by decide +kernel
theorem dX6_isPeriod_12 : decode cX6_isPeriod 12 = .ok (.iconst 1, 1) := by decide +kernel
theorem dX6_isPeriod_13 : decode cX6_isPeriod 13 = .ok (.if_icmp .lt 12, 3) := by decide +kernel
theorem dX6_isPeriod_16 : decode cX6_isPeriod 16 = .ok (.iload_n 3, 1) := by decide +kernel
theorem dX6_isPeriod_17 : decode cX6_isPeriod 17 = .ok (.aload 4, 2) := by decide +kernel
theorem dX6_isPeriod_19 : decode cX6_isPeriod 19 = .ok (.getfield 46, 3) := by decide +kernel
theorem dX6_isPeriod_22 : decode cX6_isPeriod 22 = .ok (.if_icmp .le 13, 3) := by decide +kernel
theorem dX6_isPeriod_25 : decode cX6_isPeriod 25 = .ok (.new 72, 3) := by decide +kernel
theorem dX6_isPeriod_28 : decode cX6_isPeriod 28 = .ok (.dup, 1) := by decide +kernel
theorem dX6_isPeriod_29 : decode cX6_isPeriod 29 = .ok (.ldc 170, 2) := by decide +kernel
theorem dX6_isPeriod_31 : decode cX6_isPeriod 31 = .ok (.invokespecial 76, 3) := by decide +kernel
theorem dX6_isPeriod_34 : decode cX6_isPeriod 34 = .ok (.athrow, 1) := by decide +kernel
theorem dX6_isPeriod_35 : decode cX6_isPeriod 35 = .ok (.aload 4, 2) := by decide +kernel
theorem dX6_isPeriod_37 : decode cX6_isPeriod 37 = .ok (.iload_n 3, 1) := by decide +kernel
theorem dX6_isPeriod_38 : decode cX6_isPeriod 38 = .ok (.invokevirtual 172, 3) := by decide +kernel
theorem dX6_isPeriod_41 : decode cX6_isPeriod 41 = .ok (.ireturn, 1) := by decide +kernel
theorem dX6_period_0 : decode cX6_period 0 = .ok (.aload_n 0, 1) := by decide +kernel
theorem dX6_period_1 : decode cX6_period 1 = .ok (.iload_n 1, 1) := by decide +kernel
theorem dX6_period_2 : decode cX6_period 2 = .ok (.invokestatic 34, 3) := by decide +kernel
theorem dX6_period_5 : decode cX6_period 5 = .ok (.iload_n 2, 1) := by decide +kernel
theorem dX6_period_6 : decode cX6_period 6 = .ok (.invokevirtual 42, 3) := by decide +kernel
theorem dX6_period_9 : decode cX6_period 9 = .ok (.astore_n 3, 1) := by decide +kernel
theorem dX6_period_10 : decode cX6_period 10 = .ok (.iconst 1, 1) := by decide +kernel
theorem dX6_period_11 : decode cX6_period 11 = .ok (.istore 4, 2) := by decide +kernel
theorem dX6_period_13 : decode cX6_period 13 = .ok (.iload 4, 2) := by decide +kernel
theorem dX6_period_15 : decode cX6_period 15 = .ok (.aload_n 3, 1) := by decide +kernel
theorem dX6_period_16 : decode cX6_period 16 = .ok (.getfield 46, 3) := by decide +kernel
theorem dX6_period_19 : decode cX6_period 19 = .ok (.if_icmp .ge 21, 3) := by decide +kernel
theorem dX6_period_22 : decode cX6_period 22 = .ok (.aload_n 3, 1) := by decide +kernel
theorem dX6_period_23 : decode cX6_period 23 = .ok (.iload 4, 2) := by decide +kernel
theorem dX6_period_25 : decode cX6_period 25 = .ok (.invokevirtual 172, 3) := by decide +kernel
theorem dX6_period_28 : decode cX6_period 28 = .ok (.ifCond .eq 6, 3) := by decide +kernel
theorem dX6_period_31 : decode cX6_period 31 = .ok (.iload 4, 2) := by decide +kernel
theorem dX6_period_33 : decode cX6_period 33 = .ok (.ireturn, 1) := by decide +kernel
theorem dX6_period_34 : decode cX6_period 34 = .ok (.iinc 4 1, 3) := by decide +kernel
theorem dX6_period_37 : decode cX6_period 37 = .ok (.goto (-24), 3) := by decide +kernel
theorem dX6_period_40 : decode cX6_period 40 = .ok (.aload_n 3, 1) := by decide +kernel
theorem dX6_period_41 : decode cX6_period 41 = .ok (.getfield 46, 3) := by decide +kernel
theorem dX6_period_44 : decode cX6_period 44 = .ok (.ireturn, 1) := by decide +kernel
theorem dX6_root_0 : decode cX6_root 0 = .ok (.aload_n 0, 1) := by decide +kernel
theorem dX6_root_1 : decode cX6_root 1 = .ok (.iload_n 1, 1) := by decide +kernel
theorem dX6_root_2 : decode cX6_root 2 = .ok (.invokestatic 34, 3) := by decide +kernel
theorem dX6_root_5 : decode cX6_root 5 = .ok (.iload_n 2, 1) := by decide +kernel
theorem dX6_root_6 : decode cX6_root 6 = .ok (.invokevirtual 42, 3) := by decide +kernel
theorem dX6_root_9 : decode cX6_root 9 = .ok (.astore_n 3, 1) := by decide +kernel
theorem dX6_root_10 : decode cX6_root 10 = .ok (.iconst 1, 1) := by decide +kernel
theorem dX6_root_11 : decode cX6_root 11 = .ok (.istore 4, 2) := by decide +kernel
theorem dX6_root_13 : decode cX6_root 13 = .ok (.iload 4, 2) := by decide +kernel
theorem dX6_root_15 : decode cX6_root 15 = .ok (.aload_n 3, 1) := by decide +kernel
theorem dX6_root_16 : decode cX6_root 16 = .ok (.getfield 46, 3) := by decide +kernel
theorem dX6_root_19 : decode cX6_root 19 = .ok (.if_icmp .ge 31, 3) := by decide +kernel
theorem dX6_root_22 : decode cX6_root 22 = .ok (.aload_n 3, 1) := by decide +kernel
theorem dX6_root_23 : decode cX6_root 23 = .ok (.getfield 46, 3) := by decide +kernel
theorem dX6_root_26 : decode cX6_root 26 = .ok (.iload 4, 2) := by decide +kernel
theorem dX6_root_28 : decode cX6_root 28 = .ok (.irem, 1) := by decide +kernel
theorem dX6_root_29 : decode cX6_root 29 = .ok (.ifCond .ne 15, 3) := by decide +kernel
theorem dX6_root_32 : decode cX6_root 32 = .ok (.aload_n 3, 1) := by decide +kernel
theorem dX6_root_33 : decode cX6_root 33 = .ok (.iload 4, 2) := by decide +kernel
theorem dX6_root_35 : decode cX6_root 35 = .ok (.invokevirtual 172, 3) := by decide +kernel
theorem dX6_root_38 : decode cX6_root 38 = .ok (.ifCond .eq 6, 3) := by decide +kernel
theorem dX6_root_41 : decode cX6_root 41 = .ok (.iload 4, 2) := by decide +kernel
theorem dX6_root_43 : decode cX6_root 43 = .ok (.ireturn, 1) := by decide +kernel
theorem dX6_root_44 : decode cX6_root 44 = .ok (.iinc 4 1, 3) := by decide +kernel
theorem dX6_root_47 : decode cX6_root 47 = .ok (.goto (-34), 3) := by decide +kernel
theorem dX6_root_50 : decode cX6_root 50 = .ok (.aload_n 3, 1) := by decide +kernel
theorem dX6_root_51 : decode cX6_root 51 = .ok (.getfield 46, 3) := by decide +kernel
theorem dX6_root_54 : decode cX6_root 54 = .ok (.ireturn, 1) := by decide +kernel
theorem dX6_rotation_0 : decode cX6_rotation 0 = .ok (.iload_n 1, 1) := by decide +kernel
theorem dX6_rotation_1 : decode cX6_rotation 1 = .ok (.invokestatic 34, 3) := by decide +kernel
theorem dX6_rotation_4 : decode cX6_rotation 4 = .ok (.istore 4, 2) := by decide +kernel
theorem dX6_rotation_6 : decode cX6_rotation 6 = .ok (.iload_n 2, 1) := by decide +kernel
theorem dX6_rotation_7 : decode cX6_rotation 7 = .ok (.invokestatic 133, 3) := by decide +kernel
theorem dX6_rotation_10 : decode cX6_rotation 10 = .ok (.istore 5, 2) := by decide +kernel
theorem dX6_rotation_12 : decode cX6_rotation 12 = .ok (.aload_n 0, 1) := by decide +kernel
theorem dX6_rotation_13 : decode cX6_rotation 13 = .ok (.iload 4, 2) := by decide +kernel
theorem dX6_rotation_15 : decode cX6_rotation 15 = .ok (.iload_n 3, 1) := by decide +kernel
theorem dX6_rotation_16 : decode cX6_rotation 16 = .ok (.invokevirtual 42, 3) := by decide +kernel
theorem dX6_rotation_19 : decode cX6_rotation 19 = .ok (.astore 6, 2) := by decide +kernel
theorem dX6_rotation_21 : decode cX6_rotation 21 = .ok (.aload 6, 2) := by decide +kernel
theorem dX6_rotation_23 : decode cX6_rotation 23 = .ok (.getfield 46, 3) := by decide +kernel
theorem dX6_rotation_26 : decode cX6_rotation 26 = .ok (.ifCond .ne 5, 3) := by decide +kernel
theorem dX6_rotation_29 : decode cX6_rotation 29 = .ok (.iconst (-1), 1) := by decide +kernel
theorem dX6_rotation_30 : decode cX6_rotation 30 = .ok (.ireturn, 1) := by decide +kernel
theorem dX6_rotation_31 : decode cX6_rotation 31 = .ok (.iconst 0, 1) := by decide +kernel
theorem dX6_rotation_32 : decode cX6_rotation 32 = .ok (.istore 7, 2) := by decide +kernel
theorem dX6_rotation_34 : decode cX6_rotation 34 = .ok (.iconst 1, 1) := by decide +kernel
theorem dX6_rotation_35 : decode cX6_rotation 35 = .ok (.istore 8, 2) := by decide +kernel
theorem dX6_rotation_37 : decode cX6_rotation 37 = .ok (.iload 8, 2) := by decide +kernel
theorem dX6_rotation_39 : decode cX6_rotation 39 = .ok (.aload 6, 2) := by decide +kernel
theorem dX6_rotation_41 : decode cX6_rotation 41 = .ok (.getfield 46, 3) := by decide +kernel
theorem dX6_rotation_44 : decode cX6_rotation 44 = .ok (.if_icmp .ge 27, 3) := by decide +kernel
theorem dX6_rotation_47 : decode cX6_rotation 47 = .ok (.aload 6, 2) := by decide +kernel
theorem dX6_rotation_49 : decode cX6_rotation 49 = .ok (.iload 8, 2) := by decide +kernel
theorem dX6_rotation_51 : decode cX6_rotation 51 = .ok (.iload 7, 2) := by decide +kernel
theorem dX6_rotation_53 : decode cX6_rotation 53 = .ok (.iload 5, 2) := by decide +kernel
theorem dX6_rotation_55 : decode cX6_rotation 55 = .ok (.invokevirtual 176, 3) := by decide +kernel
theorem dX6_rotation_58 : decode cX6_rotation 58 = .ok (.ifCond .ge 7, 3) := by decide +kernel
theorem dX6_rotation_61 : decode cX6_rotation 61 = .ok (.iload 8, 2) := by decide +kernel
theorem dX6_rotation_63 : decode cX6_rotation 63 = .ok (.istore 7, 2) := by decide +kernel
theorem dX6_rotation_65 : decode cX6_rotation 65 = .ok (.iinc 8 1, 3) := by decide +kernel
theorem dX6_rotation_68 : decode cX6_rotation 68 = .ok (.goto (-31), 3) := by decide +kernel
theorem dX6_rotation_71 : decode cX6_rotation 71 = .ok (.iload 7, 2) := by decide +kernel
theorem dX6_rotation_73 : decode cX6_rotation 73 = .ok (.ireturn, 1) := by decide +kernel
theorem dX6_factors_0 : decode cX6_factors 0 = .ok (.iload_n 1, 1) := by decide +kernel
theorem dX6_factors_1 : decode cX6_factors 1 = .ok (.invokestatic 34, 3) := by decide +kernel
theorem dX6_factors_4 : decode cX6_factors 4 = .ok (.istore 4, 2) := by decide +kernel
theorem dX6_factors_6 : decode cX6_factors 6 = .ok (.iload_n 2, 1) := by decide +kernel
theorem dX6_factors_7 : decode cX6_factors 7 = .ok (.invokestatic 133, 3) := by decide +kernel
theorem dX6_factors_10 : decode cX6_factors 10 = .ok (.istore 5, 2) := by decide +kernel
theorem dX6_factors_12 : decode cX6_factors 12 = .ok (.aload_n 0, 1) := by decide +kernel
theorem dX6_factors_13 : decode cX6_factors 13 = .ok (.getfield 28, 3) := by decide +kernel
theorem dX6_factors_16 : decode cX6_factors 16 = .ok (.aload_n 0, 1) := by decide +kernel
theorem dX6_factors_17 : decode cX6_factors 17 = .ok (.iload 4, 2) := by decide +kernel
theorem dX6_factors_19 : decode cX6_factors 19 = .ok (.iload_n 3, 1) := by decide +kernel
theorem dX6_factors_20 : decode cX6_factors 20 = .ok (.invokevirtual 42, 3) := by decide +kernel
theorem dX6_factors_23 : decode cX6_factors 23 = .ok (.iload 5, 2) := by decide +kernel
theorem dX6_factors_25 : decode cX6_factors 25 = .ok (.invokevirtual 151, 3) := by decide +kernel
theorem dX6_factors_28 : decode cX6_factors 28 = .ok (.aload_n 0, 1) := by decide +kernel
theorem dX6_factors_29 : decode cX6_factors 29 = .ok (.getfield 28, 3) := by decide +kernel
theorem dX6_factors_32 : decode cX6_factors 32 = .ok (.invokevirtual 180, 3) := by decide +kernel
theorem dX6_factors_35 : decode cX6_factors 35 = .ok (.aload_n 0, 1) := by decide +kernel
theorem dX6_factors_36 : decode cX6_factors 36 = .ok (.getfield 28, 3) := by decide +kernel
theorem dX6_factors_39 : decode cX6_factors 39 = .ok (.getfield 183, 3) := by decide +kernel
theorem dX6_factors_42 : decode cX6_factors 42 = .ok (.ireturn, 1) := by decide +kernel
theorem dX6_factor_0 : decode cX6_factor 0 = .ok (.iload_n 1, 1) := by decide +kernel
theorem dX6_factor_1 : decode cX6_factor 1 = .ok (.invokestatic 34, 3) := by decide +kernel
theorem dX6_factor_4 : decode cX6_factor 4 = .ok (.istore 5, 2) := by decide +kernel
theorem dX6_factor_6 : decode cX6_factor 6 = .ok (.iload_n 2, 1) := by decide +kernel
theorem dX6_factor_7 : decode cX6_factor 7 = .ok (.invokestatic 133, 3) := by decide +kernel
theorem dX6_factor_10 : decode cX6_factor 10 = .ok (.istore 6, 2) := by decide +kernel
theorem dX6_factor_12 : decode cX6_factor 12 = .ok (.aload_n 0, 1) := by decide +kernel
theorem dX6_factor_13 : decode cX6_factor 13 = .ok (.getfield 28, 3) := by decide +kernel
theorem dX6_factor_16 : decode cX6_factor 16 = .ok (.aload_n 0, 1) := by decide +kernel
theorem dX6_factor_17 : decode cX6_factor 17 = .ok (.iload 5, 2) := by decide +kernel
theorem dX6_factor_19 : decode cX6_factor 19 = .ok (.iload_n 3, 1) := by decide +kernel
theorem dX6_factor_20 : decode cX6_factor 20 = .ok (.invokevirtual 42, 3) := by decide +kernel
theorem dX6_factor_23 : decode cX6_factor 23 = .ok (.iload 6, 2) := by decide +kernel
theorem dX6_factor_25 : decode cX6_factor 25 = .ok (.invokevirtual 151, 3) := by decide +kernel
theorem dX6_factor_28 : decode cX6_factor 28 = .ok (.aload_n 0, 1) := by decide +kernel
theorem dX6_factor_29 : decode cX6_factor 29 = .ok (.getfield 28, 3) := by decide +kernel
theorem dX6_factor_32 : decode cX6_factor 32 = .ok (.invokevirtual 180, 3) := by decide +kernel
theorem dX6_factor_35 : decode cX6_factor 35 = .ok (.iload 4, 2) := by decide +kernel
theorem dX6_factor_37 : decode cX6_factor 37 = .ok (.aload_n 0, 1) := by decide +kernel
theorem dX6_factor_38 : decode cX6_factor 38 = .ok (.getfield 28, 3) := by decide +kernel
theorem dX6_factor_41 : decode cX6_factor 41 = .ok (.getfield 183, 3) := by decide +kernel
theorem dX6_factor_44 : decode cX6_factor 44 = .ok (.invokestatic 61, 3) := by decide +kernel
theorem dX6_factor_47 : decode cX6_factor 47 = .ok (.aload_n 0, 1) := by decide +kernel
theorem dX6_factor_48 : decode cX6_factor 48 = .ok (.getfield 28, 3) := by decide +kernel
theorem dX6_factor_51 : decode cX6_factor 51 = .ok (.getfield 186, 3) := by decide +kernel
theorem dX6_factor_54 : decode cX6_factor 54 = .ok (.iload 4, 2) := by decide +kernel
theorem dX6_factor_56 : decode cX6_factor 56 = .ok (.iaload, 1) := by decide +kernel
theorem dX6_factor_57 : decode cX6_factor 57 = .ok (.ireturn, 1) := by decide +kernel
theorem dX6_share_0 : decode cX6_share 0 = .ok (.iload_n 1, 1) := by decide +kernel
theorem dX6_share_1 : decode cX6_share 1 = .ok (.invokestatic 34, 3) := by decide +kernel
theorem dX6_share_4 : decode cX6_share 4 = .ok (.istore_n 2, 1) := by decide +kernel
theorem dX6_share_5 : decode cX6_share 5 = .ok (.iconst 0, 1) := by decide +kernel
theorem dX6_share_6 : decode cX6_share 6 = .ok (.istore_n 3, 1) := by decide +kernel
theorem dX6_share_7 : decode cX6_share 7 = .ok (.iconst 0, 1) := by decide +kernel
theorem dX6_share_8 : decode cX6_share 8 = .ok (.istore 4, 2) := by decide +kernel
theorem dX6_share_10 : decode cX6_share 10 = .ok (.iconst 0, 1) := by decide +kernel
theorem dX6_share_11 : decode cX6_share 11 = .ok (.istore 5, 2) := by decide +kernel
theorem dX6_share_13 : decode cX6_share 13 = .ok (.iload 5, 2) := by decide +kernel
theorem dX6_share_15 : decode cX6_share 15 = .ok (.bipush 12, 2) := by decide +kernel
theorem dX6_share_17 : decode cX6_share 17 = .ok (.if_icmp .ge 46, 3) := by decide +kernel
theorem dX6_share_20 : decode cX6_share 20 = .ok (.aload_n 0, 1) := by decide +kernel
theorem dX6_share_21 : decode cX6_share 21 = .ok (.iload_n 2, 1) := by decide +kernel
theorem dX6_share_22 : decode cX6_share 22 = .ok (.aload_n 0, 1) := by decide +kernel
theorem dX6_share_23 : decode cX6_share 23 = .ok (.getfield 17, 3) := by decide +kernel
theorem dX6_share_26 : decode cX6_share 26 = .ok (.iload 5, 2) := by decide +kernel
theorem dX6_share_28 : decode cX6_share 28 = .ok (.aaload, 1) := by decide +kernel
theorem dX6_share_29 : decode cX6_share 29 = .ok (.invokevirtual 108, 3) := by decide +kernel
theorem dX6_share_32 : decode cX6_share 32 = .ok (.ifCond .eq 25, 3) := by decide +kernel
theorem dX6_share_35 : decode cX6_share 35 = .ok (.iload_n 3, 1) := by decide +kernel
theorem dX6_share_36 : decode cX6_share 36 = .ok (.aload_n 0, 1) := by decide +kernel
theorem dX6_share_37 : decode cX6_share 37 = .ok (.iload_n 2, 1) := by decide +kernel
theorem dX6_share_38 : decode cX6_share 38 = .ok (.iload 5, 2) := by decide +kernel
theorem dX6_share_40 : decode cX6_share 40 = .ok (.invokevirtual 189, 3) := by decide +kernel
theorem dX6_share_43 : decode cX6_share 43 = .ok (.iadd, 1) := by decide +kernel
theorem dX6_share_44 : decode cX6_share 44 = .ok (.istore_n 3, 1) := by decide +kernel
theorem dX6_share_45 : decode cX6_share 45 = .ok (.iload 4, 2) := by decide +kernel
theorem dX6_share_47 : decode cX6_share 47 = .ok (.aload_n 0, 1) := by decide +kernel
theorem dX6_share_48 : decode cX6_share 48 = .ok (.iload_n 2, 1) := by decide +kernel
theorem dX6_share_49 : decode cX6_share 49 = .ok (.iload 5, 2) := by decide +kernel
theorem dX6_share_51 : decode cX6_share 51 = .ok (.invokevirtual 193, 3) := by decide +kernel
theorem dX6_share_54 : decode cX6_share 54 = .ok (.iadd, 1) := by decide +kernel
theorem dX6_share_55 : decode cX6_share 55 = .ok (.istore 4, 2) := by decide +kernel
theorem dX6_share_57 : decode cX6_share 57 = .ok (.iinc 5 1, 3) := by decide +kernel
theorem dX6_share_60 : decode cX6_share 60 = .ok (.goto (-47), 3) := by decide +kernel
theorem dX6_share_63 : decode cX6_share 63 = .ok (.iload_n 3, 1) := by decide +kernel
theorem dX6_share_64 : decode cX6_share 64 = .ok (.ifCond .ne 13, 3) := by decide +kernel
theorem dX6_share_67 : decode cX6_share 67 = .ok (.new 50, 3) := by decide +kernel
theorem dX6_share_70 : decode cX6_share 70 = .ok (.dup, 1) := by decide +kernel
theorem dX6_share_71 : decode cX6_share 71 = .ok (.ldc 196, 2) := by decide +kernel
theorem dX6_share_73 : decode cX6_share 73 = .ok (.invokespecial 54, 3) := by decide +kernel
theorem dX6_share_76 : decode cX6_share 76 = .ok (.athrow, 1) := by decide +kernel
theorem dX6_share_77 : decode cX6_share 77 = .ok (.iload 4, 2) := by decide +kernel
theorem dX6_share_79 : decode cX6_share 79 = .ok (.i2f, 1) := by decide +kernel
theorem dX6_share_80 : decode cX6_share 80 = .ok (.iload_n 3, 1) := by decide +kernel
theorem dX6_share_81 : decode cX6_share 81 = .ok (.i2f, 1) := by decide +kernel
theorem dX6_share_82 : decode cX6_share 82 = .ok (.fdiv, 1) := by decide +kernel
theorem dX6_share_83 : decode cX6_share 83 = .ok (.freturn, 1) := by decide +kernel
theorem dX6_mean_0 : decode cX6_mean 0 = .ok (.iload_n 1, 1) := by decide +kernel
theorem dX6_mean_1 : decode cX6_mean 1 = .ok (.invokestatic 34, 3) := by decide +kernel
theorem dX6_mean_4 : decode cX6_mean 4 = .ok (.istore_n 2, 1) := by decide +kernel
theorem dX6_mean_5 : decode cX6_mean 5 = .ok (.iconst 0, 1) := by decide +kernel
theorem dX6_mean_6 : decode cX6_mean 6 = .ok (.istore_n 3, 1) := by decide +kernel
theorem dX6_mean_7 : decode cX6_mean 7 = .ok (.iconst 0, 1) := by decide +kernel
theorem dX6_mean_8 : decode cX6_mean 8 = .ok (.istore 4, 2) := by decide +kernel
theorem dX6_mean_10 : decode cX6_mean 10 = .ok (.iload 4, 2) := by decide +kernel
theorem dX6_mean_12 : decode cX6_mean 12 = .ok (.iconst 4, 1) := by decide +kernel
theorem dX6_mean_13 : decode cX6_mean 13 = .ok (.if_icmp .ge 26, 3) := by decide +kernel
theorem dX6_mean_16 : decode cX6_mean 16 = .ok (.iload_n 3, 1) := by decide +kernel
theorem dX6_mean_17 : decode cX6_mean 17 = .ok (.aload_n 0, 1) := by decide +kernel
theorem dX6_mean_18 : decode cX6_mean 18 = .ok (.getfield 11, 3) := by decide +kernel
theorem dX6_mean_21 : decode cX6_mean 21 = .ok (.iload_n 2, 1) := by decide +kernel
theorem dX6_mean_22 : decode cX6_mean 22 = .ok (.iconst 4, 1) := by decide +kernel
theorem dX6_mean_23 : decode cX6_mean 23 = .ok (.imul, 1) := by decide +kernel
theorem dX6_mean_24 : decode cX6_mean 24 = .ok (.iload 4, 2) := by decide +kernel
theorem dX6_mean_26 : decode cX6_mean 26 = .ok (.iadd, 1) := by decide +kernel
theorem dX6_mean_27 : decode cX6_mean 27 = .ok (.aaload, 1) := by decide +kernel
theorem dX6_mean_28 : decode cX6_mean 28 = .ok (.getfield 46, 3) := by decide +kernel
theorem dX6_mean_31 : decode cX6_mean 31 = .ok (.iadd, 1) := by decide +kernel
theorem dX6_mean_32 : decode cX6_mean 32 = .ok (.istore_n 3, 1) := by decide +kernel
theorem dX6_mean_33 : decode cX6_mean 33 = .ok (.iinc 4 1, 3) := by decide +kernel
theorem dX6_mean_36 : decode cX6_mean 36 = .ok (.goto (-26), 3) := by decide +kernel
theorem dX6_mean_39 : decode cX6_mean 39 = .ok (.iload_n 3, 1) := by decide +kernel
theorem dX6_mean_40 : decode cX6_mean 40 = .ok (.i2d, 1) := by decide +kernel
theorem dX6_mean_41 : decode cX6_mean 41 = .ok (.ldc2_w 198, 3) := by decide +kernel
theorem dX6_mean_44 : decode cX6_mean 44 = .ok (.ddiv, 1) := by decide +kernel
theorem dX6_mean_45 : decode cX6_mean 45 = .ok (.dreturn, 1) := by decide +kernel
theorem dX6_checksum_0 : decode cX6_checksum 0 = .ok (.ldc2_w 200, 3) := by decide +kernel
theorem dX6_checksum_3 : decode cX6_checksum 3 = .ok (.lstore_n 1, 1) := by decide +kernel
theorem dX6_checksum_4 : decode cX6_checksum 4 = .ok (.aload_n 0, 1) := by decide +kernel
theorem dX6_checksum_5 : decode cX6_checksum 5 = .ok (.getfield 11, 3) := by decide +kernel
theorem dX6_checksum_8 : decode cX6_checksum 8 = .ok (.astore_n 3, 1) := by decide +kernel
theorem dX6_checksum_9 : decode cX6_checksum 9 = .ok (.aload_n 3, 1) := by decide +kernel
theorem dX6_checksum_10 : decode cX6_checksum 10 = .ok (.arraylength, 1) := by decide +kernel
theorem dX6_checksum_11 : decode cX6_checksum 11 = .ok (.istore 4, 2) := by decide +kernel
theorem dX6_checksum_13 : decode cX6_checksum 13 = .ok (.iconst 0, 1) := by decide +kernel
theorem dX6_checksum_14 : decode cX6_checksum 14 = .ok (.istore 5, 2) := by decide +kernel
theorem dX6_checksum_16 : decode cX6_checksum 16 = .ok (.iload 5, 2) := by decide +kernel
theorem dX6_checksum_18 : decode cX6_checksum 18 = .ok (.iload 4, 2) := by decide +kernel
theorem dX6_checksum_20 : decode cX6_checksum 20 = .ok (.if_icmp .ge 62, 3) := by decide +kernel
theorem dX6_checksum_23 : decode cX6_checksum 23 = .ok (.aload_n 3, 1) := by decide +kernel
theorem dX6_checksum_24 : decode cX6_checksum 24 = .ok (.iload 5, 2) := by decide +kernel
theorem dX6_checksum_26 : decode cX6_checksum 26 = .ok (.aaload, 1) := by decide +kernel
theorem dX6_checksum_27 : decode cX6_checksum 27 = .ok (.astore 6, 2) := by decide +kernel
theorem dX6_checksum_29 : decode cX6_checksum 29 = .ok (.ldc2_w 202, 3) := by decide +kernel
theorem dX6_checksum_32 : decode cX6_checksum 32 = .ok (.lload_n 1, 1) := by decide +kernel
theorem dX6_checksum_33 : decode cX6_checksum 33 = .ok (.lmul, 1) := by decide +kernel
theorem dX6_checksum_34 : decode cX6_checksum 34 = .ok (.aload 6, 2) := by decide +kernel
theorem dX6_checksum_36 : decode cX6_checksum 36 = .ok (.getfield 46, 3) := by decide +kernel
theorem dX6_checksum_39 : decode cX6_checksum 39 = .ok (.i2l, 1) := by decide +kernel
theorem dX6_checksum_40 : decode cX6_checksum 40 = .ok (.ladd, 1) := by decide +kernel
theorem dX6_checksum_41 : decode cX6_checksum 41 = .ok (.lstore_n 1, 1) := by decide +kernel
theorem dX6_checksum_42 : decode cX6_checksum 42 = .ok (.iconst 0, 1) := by decide +kernel
theorem dX6_checksum_43 : decode cX6_checksum 43 = .ok (.istore 7, 2) := by decide +kernel
theorem dX6_checksum_45 : decode cX6_checksum 45 = .ok (.iload 7, 2) := by decide +kernel
theorem dX6_checksum_47 : decode cX6_checksum 47 = .ok (.aload 6, 2) := by decide +kernel
theorem dX6_checksum_49 : decode cX6_checksum 49 = .ok (.getfield 46, 3) := by decide +kernel
theorem dX6_checksum_52 : decode cX6_checksum 52 = .ok (.if_icmp .ge 24, 3) := by decide +kernel
theorem dX6_checksum_55 : decode cX6_checksum 55 = .ok (.ldc2_w 202, 3) := by decide +kernel
theorem dX6_checksum_58 : decode cX6_checksum 58 = .ok (.lload_n 1, 1) := by decide +kernel
theorem dX6_checksum_59 : decode cX6_checksum 59 = .ok (.lmul, 1) := by decide +kernel
theorem dX6_checksum_60 : decode cX6_checksum 60 = .ok (.aload 6, 2) := by decide +kernel
theorem dX6_checksum_62 : decode cX6_checksum 62 = .ok (.getfield 57, 3) := by decide +kernel
theorem dX6_checksum_65 : decode cX6_checksum 65 = .ok (.iload 7, 2) := by decide +kernel
theorem dX6_checksum_67 : decode cX6_checksum 67 = .ok (.laload, 1) := by decide +kernel
theorem dX6_checksum_68 : decode cX6_checksum 68 = .ok (.ladd, 1) := by decide +kernel
theorem dX6_checksum_69 : decode cX6_checksum 69 = .ok (.lstore_n 1, 1) := by decide +kernel
theorem dX6_checksum_70 : decode cX6_checksum 70 = .ok (.iinc 7 1, 3) := by decide +kernel
theorem dX6_checksum_73 : decode cX6_checksum 73 = .ok (.goto (-28), 3) := by decide +kernel
theorem dX6_checksum_76 : decode cX6_checksum 76 = .ok (.iinc 5 1, 3) := by decide +kernel
theorem dX6_checksum_79 : decode cX6_checksum 79 = .ok (.goto (-63), 3) := by decide +kernel
theorem dX6_checksum_82 : decode cX6_checksum 82 = .ok (.aload_n 0, 1) := by decide +kernel
theorem dX6_checksum_83 : decode cX6_checksum 83 = .ok (.getfield 17, 3) := by decide +kernel
theorem dX6_checksum_86 : decode cX6_checksum 86 = .ok (.astore_n 3, 1) := by decide +kernel
theorem dX6_checksum_87 : decode cX6_checksum 87 = .ok (.aload_n 3, 1) := by decide +kernel
theorem dX6_checksum_88 : decode cX6_checksum 88 = .ok (.arraylength, 1) := by decide +kernel
theorem dX6_checksum_89 : decode cX6_checksum 89 = .ok (.istore 4, 2) := by decide +kernel
theorem dX6_checksum_91 : decode cX6_checksum 91 = .ok (.iconst 0, 1) := by decide +kernel
theorem dX6_checksum_92 : decode cX6_checksum 92 = .ok (.istore 5, 2) := by decide +kernel
theorem dX6_checksum_94 : decode cX6_checksum 94 = .ok (.iload 5, 2) := by decide +kernel
theorem dX6_checksum_96 : decode cX6_checksum 96 = .ok (.iload 4, 2) := by decide +kernel
theorem dX6_checksum_98 : decode cX6_checksum 98 = .ok (.if_icmp .ge 54, 3) := by decide +kernel
theorem dX6_checksum_101 : decode cX6_checksum 101 = .ok (.aload_n 3, 1) := by decide +kernel
theorem dX6_checksum_102 : decode cX6_checksum 102 = .ok (.iload 5, 2) := by decide +kernel
theorem dX6_checksum_104 : decode cX6_checksum 104 = .ok (.aaload, 1) := by decide +kernel
theorem dX6_checksum_105 : decode cX6_checksum 105 = .ok (.astore 6, 2) := by decide +kernel
theorem dX6_checksum_107 : decode cX6_checksum 107 = .ok (.ldc2_w 202, 3) := by decide +kernel
theorem dX6_checksum_110 : decode cX6_checksum 110 = .ok (.lload_n 1, 1) := by decide +kernel
theorem dX6_checksum_111 : decode cX6_checksum 111 = .ok (.lmul, 1) := by decide +kernel
theorem dX6_checksum_112 : decode cX6_checksum 112 = .ok (.aload 6, 2) := by decide +kernel
theorem dX6_checksum_114 : decode cX6_checksum 114 = .ok (.getfield 97, 3) := by decide +kernel
theorem dX6_checksum_117 : decode cX6_checksum 117 = .ok (.i2l, 1) := by decide +kernel
theorem dX6_checksum_118 : decode cX6_checksum 118 = .ok (.ladd, 1) := by decide +kernel
theorem dX6_checksum_119 : decode cX6_checksum 119 = .ok (.lstore_n 1, 1) := by decide +kernel
theorem dX6_checksum_120 : decode cX6_checksum 120 = .ok (.ldc2_w 202, 3) := by decide +kernel
theorem dX6_checksum_123 : decode cX6_checksum 123 = .ok (.lload_n 1, 1) := by decide +kernel
theorem dX6_checksum_124 : decode cX6_checksum 124 = .ok (.lmul, 1) := by decide +kernel
theorem dX6_checksum_125 : decode cX6_checksum 125 = .ok (.aload 6, 2) := by decide +kernel
theorem dX6_checksum_127 : decode cX6_checksum 127 = .ok (.getfield 100, 3) := by decide +kernel
theorem dX6_checksum_130 : decode cX6_checksum 130 = .ok (.i2l, 1) := by decide +kernel
theorem dX6_checksum_131 : decode cX6_checksum 131 = .ok (.ladd, 1) := by decide +kernel
theorem dX6_checksum_132 : decode cX6_checksum 132 = .ok (.lstore_n 1, 1) := by decide +kernel
theorem dX6_checksum_133 : decode cX6_checksum 133 = .ok (.ldc2_w 202, 3) := by decide +kernel
theorem dX6_checksum_136 : decode cX6_checksum 136 = .ok (.lload_n 1, 1) := by decide +kernel
theorem dX6_checksum_137 : decode cX6_checksum 137 = .ok (.lmul, 1) := by decide +kernel
theorem dX6_checksum_138 : decode cX6_checksum 138 = .ok (.aload 6, 2) := by decide +kernel
theorem dX6_checksum_140 : decode cX6_checksum 140 = .ok (.getfield 103, 3) := by decide +kernel
theorem dX6_checksum_143 : decode cX6_checksum 143 = .ok (.i2l, 1) := by decide +kernel
theorem dX6_checksum_144 : decode cX6_checksum 144 = .ok (.ladd, 1) := by decide +kernel
theorem dX6_checksum_145 : decode cX6_checksum 145 = .ok (.lstore_n 1, 1) := by decide +kernel
theorem dX6_checksum_146 : decode cX6_checksum 146 = .ok (.iinc 5 1, 3) := by decide +kernel
theorem dX6_checksum_149 : decode cX6_checksum 149 = .ok (.goto (-55), 3) := by decide +kernel
theorem dX6_checksum_152 : decode cX6_checksum 152 = .ok (.ldc2_w 202, 3) := by decide +kernel
theorem dX6_checksum_155 : decode cX6_checksum 155 = .ok (.lload_n 1, 1) := by decide +kernel
theorem dX6_checksum_156 : decode cX6_checksum 156 = .ok (.lmul, 1) := by decide +kernel
theorem dX6_checksum_157 : decode cX6_checksum 157 = .ok (.aload_n 0, 1) := by decide +kernel
theorem dX6_checksum_158 : decode cX6_checksum 158 = .ok (.getfield 144, 3) := by decide +kernel
theorem dX6_checksum_161 : decode cX6_checksum 161 = .ok (.i2l, 1) := by decide +kernel
theorem dX6_checksum_162 : decode cX6_checksum 162 = .ok (.ladd, 1) := by decide +kernel
theorem dX6_checksum_163 : decode cX6_checksum 163 = .ok (.lstore_n 1, 1) := by decide +kernel
theorem dX6_checksum_164 : decode cX6_checksum 164 = .ok (.iconst 0, 1) := by decide +kernel
theorem dX6_checksum_165 : decode cX6_checksum 165 = .ok (.istore_n 3, 1) := by decide +kernel
theorem dX6_checksum_166 : decode cX6_checksum 166 = .ok (.iload_n 3, 1) := by decide +kernel
theorem dX6_checksum_167 : decode cX6_checksum 167 = .ok (.aload_n 0, 1) := by decide +kernel
theorem dX6_checksum_168 : decode cX6_checksum 168 = .ok (.getfield 144, 3) := by decide +kernel
theorem dX6_checksum_171 : decode cX6_checksum 171 = .ok (.if_icmp .ge 23, 3) := by decide +kernel
theorem dX6_checksum_174 : decode cX6_checksum 174 = .ok (.ldc2_w 202, 3) := by decide +kernel
theorem dX6_checksum_177 : decode cX6_checksum 177 = .ok (.lload_n 1, 1) := by decide +kernel
theorem dX6_checksum_178 : decode cX6_checksum 178 = .ok (.lmul, 1) := by decide +kernel
theorem dX6_checksum_179 : decode cX6_checksum 179 = .ok (.aload_n 0, 1) := by decide +kernel
theorem dX6_checksum_180 : decode cX6_checksum 180 = .ok (.getfield 21, 3) := by decide +kernel
theorem dX6_checksum_183 : decode cX6_checksum 183 = .ok (.iload_n 3, 1) := by decide +kernel
theorem dX6_checksum_184 : decode cX6_checksum 184 = .ok (.iaload, 1) := by decide +kernel
theorem dX6_checksum_185 : decode cX6_checksum 185 = .ok (.i2l, 1) := by decide +kernel
theorem dX6_checksum_186 : decode cX6_checksum 186 = .ok (.ladd, 1) := by decide +kernel
theorem dX6_checksum_187 : decode cX6_checksum 187 = .ok (.lstore_n 1, 1) := by decide +kernel
theorem dX6_checksum_188 : decode cX6_checksum 188 = .ok (.iinc 3 1, 3) := by decide +kernel
theorem dX6_checksum_191 : decode cX6_checksum 191 = .ok (.goto (-25), 3) := by decide +kernel
theorem dX6_checksum_194 : decode cX6_checksum 194 = .ok (.lload_n 1, 1) := by decide +kernel
theorem dX6_checksum_195 : decode cX6_checksum 195 = .ok (.lreturn, 1) := by decide +kernel
theorem dX6_isTrue_0 : decode cX6_isTrue 0 = .ok (.iload_n 1, 1) := by decide +kernel
theorem dX6_isTrue_1 : decode cX6_isTrue 1 = .ok (.invokestatic 34, 3) := by decide +kernel
theorem dX6_isTrue_4 : decode cX6_isTrue 4 = .ok (.istore 5, 2) := by decide +kernel
theorem dX6_isTrue_6 : decode cX6_isTrue 6 = .ok (.aload_n 0, 1) := by decide +kernel
theorem dX6_isTrue_7 : decode cX6_isTrue 7 = .ok (.iload_n 2, 1) := by decide +kernel
theorem dX6_isTrue_8 : decode cX6_isTrue 8 = .ok (.invokevirtual 89, 3) := by decide +kernel
theorem dX6_isTrue_11 : decode cX6_isTrue 11 = .ok (.astore 6, 2) := by decide +kernel
theorem dX6_isTrue_13 : decode cX6_isTrue 13 = .ok (.aload_n 0, 1) := by decide +kernel
theorem dX6_isTrue_14 : decode cX6_isTrue 14 = .ok (.iload_n 3, 1) := by decide +kernel
theorem dX6_isTrue_15 : decode cX6_isTrue 15 = .ok (.invokevirtual 89, 3) := by decide +kernel
theorem dX6_isTrue_18 : decode cX6_isTrue 18 = .ok (.astore 7, 2) := by decide +kernel
theorem dX6_isTrue_20 : decode cX6_isTrue 20 = .ok (.aload_n 0, 1) := by decide +kernel
theorem dX6_isTrue_21 : decode cX6_isTrue 21 = .ok (.iload 4, 2) := by decide +kernel
theorem dX6_isTrue_23 : decode cX6_isTrue 23 = .ok (.invokevirtual 89, 3) := by decide +kernel
theorem dX6_isTrue_26 : decode cX6_isTrue 26 = .ok (.astore 8, 2) := by decide +kernel
theorem dX6_isTrue_28 : decode cX6_isTrue 28 = .ok (.iconst 3, 1) := by decide +kernel
theorem dX6_isTrue_29 : decode cX6_isTrue 29 = .ok (.anewarray 124, 3) := by decide +kernel
theorem dX6_isTrue_32 : decode cX6_isTrue 32 = .ok (.dup, 1) := by decide +kernel
theorem dX6_isTrue_33 : decode cX6_isTrue 33 = .ok (.iconst 0, 1) := by decide +kernel
theorem dX6_isTrue_34 : decode cX6_isTrue 34 = .ok (.aload_n 0, 1) := by decide +kernel
theorem dX6_isTrue_35 : decode cX6_isTrue 35 = .ok (.iload 5, 2) := by decide +kernel
theorem dX6_isTrue_37 : decode cX6_isTrue 37 = .ok (.aload 6, 2) := by decide +kernel
theorem dX6_isTrue_39 : decode cX6_isTrue 39 = .ok (.invokevirtual 116, 3) := by decide +kernel
theorem dX6_isTrue_42 : decode cX6_isTrue 42 = .ok (.aastore, 1) := by decide +kernel
theorem dX6_isTrue_43 : decode cX6_isTrue 43 = .ok (.dup, 1) := by decide +kernel
theorem dX6_isTrue_44 : decode cX6_isTrue 44 = .ok (.iconst 1, 1) := by decide +kernel
theorem dX6_isTrue_45 : decode cX6_isTrue 45 = .ok (.aload_n 0, 1) := by decide +kernel
theorem dX6_isTrue_46 : decode cX6_isTrue 46 = .ok (.iload 5, 2) := by decide +kernel
theorem dX6_isTrue_48 : decode cX6_isTrue 48 = .ok (.aload 7, 2) := by decide +kernel
theorem dX6_isTrue_50 : decode cX6_isTrue 50 = .ok (.invokevirtual 116, 3) := by decide +kernel
theorem dX6_isTrue_53 : decode cX6_isTrue 53 = .ok (.aastore, 1) := by decide +kernel
theorem dX6_isTrue_54 : decode cX6_isTrue 54 = .ok (.dup, 1) := by decide +kernel
theorem dX6_isTrue_55 : decode cX6_isTrue 55 = .ok (.iconst 2, 1) := by decide +kernel
theorem dX6_isTrue_56 : decode cX6_isTrue 56 = .ok (.aload_n 0, 1) := by decide +kernel
theorem dX6_isTrue_57 : decode cX6_isTrue 57 = .ok (.iload 5, 2) := by decide +kernel
theorem dX6_isTrue_59 : decode cX6_isTrue 59 = .ok (.aload 8, 2) := by decide +kernel
theorem dX6_isTrue_61 : decode cX6_isTrue 61 = .ok (.invokevirtual 116, 3) := by decide +kernel
theorem dX6_isTrue_64 : decode cX6_isTrue 64 = .ok (.aastore, 1) := by decide +kernel
theorem dX6_isTrue_65 : decode cX6_isTrue 65 = .ok (.astore 9, 2) := by decide +kernel
theorem dX6_isTrue_67 : decode cX6_isTrue 67 = .ok (.iload 5, 2) := by decide +kernel
theorem dX6_isTrue_69 : decode cX6_isTrue 69 = .ok (.aload 9, 2) := by decide +kernel
theorem dX6_isTrue_71 : decode cX6_isTrue 71 = .ok (.invokestatic 204, 3) := by decide +kernel
theorem dX6_isTrue_74 : decode cX6_isTrue 74 = .ok (.ireturn, 1) := by decide +kernel
theorem dX6_rowIsTrue_0 : decode cX6_rowIsTrue 0 = .ok (.iload_n 1, 1) := by decide +kernel
theorem dX6_rowIsTrue_1 : decode cX6_rowIsTrue 1 = .ok (.invokestatic 34, 3) := by decide +kernel
theorem dX6_rowIsTrue_4 : decode cX6_rowIsTrue 4 = .ok (.istore 4, 2) := by decide +kernel
theorem dX6_rowIsTrue_6 : decode cX6_rowIsTrue 6 = .ok (.iload_n 2, 1) := by decide +kernel
theorem dX6_rowIsTrue_7 : decode cX6_rowIsTrue 7 = .ok (.invokestatic 133, 3) := by decide +kernel
theorem dX6_rowIsTrue_10 : decode cX6_rowIsTrue 10 = .ok (.istore 5, 2) := by decide +kernel
theorem dX6_rowIsTrue_12 : decode cX6_rowIsTrue 12 = .ok (.aload_n 0, 1) := by decide +kernel
theorem dX6_rowIsTrue_13 : decode cX6_rowIsTrue 13 = .ok (.iload 4, 2) := by decide +kernel
theorem dX6_rowIsTrue_15 : decode cX6_rowIsTrue 15 = .ok (.iload_n 3, 1) := by decide +kernel
theorem dX6_rowIsTrue_16 : decode cX6_rowIsTrue 16 = .ok (.invokevirtual 42, 3) := by decide +kernel
theorem dX6_rowIsTrue_19 : decode cX6_rowIsTrue 19 = .ok (.astore 6, 2) := by decide +kernel
theorem dX6_rowIsTrue_21 : decode cX6_rowIsTrue 21 = .ok (.aload_n 0, 1) := by decide +kernel
theorem dX6_rowIsTrue_22 : decode cX6_rowIsTrue 22 = .ok (.getfield 28, 3) := by decide +kernel
theorem dX6_rowIsTrue_25 : decode cX6_rowIsTrue 25 = .ok (.aload 6, 2) := by decide +kernel
theorem dX6_rowIsTrue_27 : decode cX6_rowIsTrue 27 = .ok (.iload 5, 2) := by decide +kernel
theorem dX6_rowIsTrue_29 : decode cX6_rowIsTrue 29 = .ok (.invokevirtual 151, 3) := by decide +kernel
theorem dX6_rowIsTrue_32 : decode cX6_rowIsTrue 32 = .ok (.aload_n 0, 1) := by decide +kernel
theorem dX6_rowIsTrue_33 : decode cX6_rowIsTrue 33 = .ok (.getfield 28, 3) := by decide +kernel
theorem dX6_rowIsTrue_36 : decode cX6_rowIsTrue 36 = .ok (.invokevirtual 155, 3) := by decide +kernel
theorem dX6_rowIsTrue_39 : decode cX6_rowIsTrue 39 = .ok (.aload_n 0, 1) := by decide +kernel
theorem dX6_rowIsTrue_40 : decode cX6_rowIsTrue 40 = .ok (.getfield 28, 3) := by decide +kernel
theorem dX6_rowIsTrue_43 : decode cX6_rowIsTrue 43 = .ok (.invokevirtual 180, 3) := by decide +kernel
theorem dX6_rowIsTrue_46 : decode cX6_rowIsTrue 46 = .ok (.aload_n 0, 1) := by decide +kernel
theorem dX6_rowIsTrue_47 : decode cX6_rowIsTrue 47 = .ok (.getfield 28, 3) := by decide +kernel
theorem dX6_rowIsTrue_50 : decode cX6_rowIsTrue 50 = .ok (.invokestatic 210, 3) := by decide +kernel
theorem dX6_rowIsTrue_53 : decode cX6_rowIsTrue 53 = .ok (.ifCond .eq 29, 3) := by decide +kernel
theorem dX6_rowIsTrue_56 : decode cX6_rowIsTrue 56 = .ok (.aload 6, 2) := by decide +kernel
theorem dX6_rowIsTrue_58 : decode cX6_rowIsTrue 58 = .ok (.aload_n 0, 1) := by decide +kernel
theorem dX6_rowIsTrue_59 : decode cX6_rowIsTrue 59 = .ok (.getfield 28, 3) := by decide +kernel
theorem dX6_rowIsTrue_62 : decode cX6_rowIsTrue 62 = .ok (.invokestatic 216, 3) := by decide +kernel
theorem dX6_rowIsTrue_65 : decode cX6_rowIsTrue 65 = .ok (.ifCond .eq 17, 3) := by decide +kernel
theorem dX6_rowIsTrue_68 : decode cX6_rowIsTrue 68 = .ok (.aload_n 0, 1) := by decide +kernel
theorem dX6_rowIsTrue_69 : decode cX6_rowIsTrue 69 = .ok (.getfield 28, 3) := by decide +kernel
theorem dX6_rowIsTrue_72 : decode cX6_rowIsTrue 72 = .ok (.invokestatic 220, 3) := by decide +kernel
theorem dX6_rowIsTrue_75 : decode cX6_rowIsTrue 75 = .ok (.ifCond .eq 7, 3) := by decide +kernel
theorem dX6_rowIsTrue_78 : decode cX6_rowIsTrue 78 = .ok (.iconst 1, 1) := by decide +kernel
theorem dX6_rowIsTrue_79 : decode cX6_rowIsTrue 79 = .ok (.goto 4, 3) := by decide +kernel
theorem dX6_rowIsTrue_82 : decode cX6_rowIsTrue 82 = .ok (.iconst 0, 1) := by decide +kernel
theorem dX6_rowIsTrue_83 : decode cX6_rowIsTrue 83 = .ok (.ireturn, 1) := by decide +kernel
theorem dX6_kindOf_0 : decode cX6_kindOf 0 = .ok (.iload_n 0, 1) := by decide +kernel
theorem dX6_kindOf_1 : decode cX6_kindOf 1 = .ok (.lookupswitch 51 #[(98, 43), (105, 47), (108, 49), (115, 45)], 43) := by decide +kernel
theorem dX6_kindOf_44 : decode cX6_kindOf 44 = .ok (.iconst 0, 1) := by decide +kernel
theorem dX6_kindOf_45 : decode cX6_kindOf 45 = .ok (.ireturn, 1) := by decide +kernel
theorem dX6_kindOf_46 : decode cX6_kindOf 46 = .ok (.iconst 1, 1) := by decide +kernel
theorem dX6_kindOf_47 : decode cX6_kindOf 47 = .ok (.ireturn, 1) := by decide +kernel
theorem dX6_kindOf_48 : decode cX6_kindOf 48 = .ok (.iconst 2, 1) := by decide +kernel
theorem dX6_kindOf_49 : decode cX6_kindOf 49 = .ok (.ireturn, 1) := by decide +kernel
theorem dX6_kindOf_50 : decode cX6_kindOf 50 = .ok (.iconst 3, 1) := by decide +kernel
theorem dX6_kindOf_51 : decode cX6_kindOf 51 = .ok (.ireturn, 1) := by decide +kernel
theorem dX6_kindOf_52 : decode cX6_kindOf 52 = .ok (.new 65, 3) := by decide +kernel
theorem dX6_kindOf_55 : decode cX6_kindOf 55 = .ok (.dup, 1) := by decide +kernel
theorem dX6_kindOf_56 : decode cX6_kindOf 56 = .ok (.ldc 223, 2) := by decide +kernel
theorem dX6_kindOf_58 : decode cX6_kindOf 58 = .ok (.invokespecial 69, 3) := by decide +kernel
theorem dX6_kindOf_61 : decode cX6_kindOf 61 = .ok (.athrow, 1) := by decide +kernel
theorem dX6_isUnsigned_0 : decode cX6_isUnsigned 0 = .ok (.iload_n 0, 1) := by decide +kernel
theorem dX6_isUnsigned_1 : decode cX6_isUnsigned 1 = .ok (.bipush 115, 2) := by decide +kernel
theorem dX6_isUnsigned_3 : decode cX6_isUnsigned 3 = .ok (.if_icmp .eq 19, 3) := by decide +kernel
theorem dX6_isUnsigned_6 : decode cX6_isUnsigned 6 = .ok (.iload_n 0, 1) := by decide +kernel
theorem dX6_isUnsigned_7 : decode cX6_isUnsigned 7 = .ok (.bipush 117, 2) := by decide +kernel
theorem dX6_isUnsigned_9 : decode cX6_isUnsigned 9 = .ok (.if_icmp .eq 13, 3) := by decide +kernel
theorem dX6_isUnsigned_12 : decode cX6_isUnsigned 12 = .ok (.new 65, 3) := by decide +kernel
theorem dX6_isUnsigned_15 : decode cX6_isUnsigned 15 = .ok (.dup, 1) := by decide +kernel
theorem dX6_isUnsigned_16 : decode cX6_isUnsigned 16 = .ok (.ldc 225, 2) := by decide +kernel
theorem dX6_isUnsigned_18 : decode cX6_isUnsigned 18 = .ok (.invokespecial 69, 3) := by decide +kernel
theorem dX6_isUnsigned_21 : decode cX6_isUnsigned 21 = .ok (.athrow, 1) := by decide +kernel
theorem dX6_isUnsigned_22 : decode cX6_isUnsigned 22 = .ok (.iload_n 0, 1) := by decide +kernel
theorem dX6_isUnsigned_23 : decode cX6_isUnsigned 23 = .ok (.bipush 117, 2) := by decide +kernel
theorem dX6_isUnsigned_25 : decode cX6_isUnsigned 25 = .ok (.if_icmp .ne 7, 3) := by decide +kernel
theorem dX6_isUnsigned_28 : decode cX6_isUnsigned 28 = .ok (.iconst 1, 1) := by decide +kernel
theorem dX6_isUnsigned_29 : decode cX6_isUnsigned 29 = .ok (.goto 4, 3) := by decide +kernel
theorem dX6_isUnsigned_32 : decode cX6_isUnsigned 32 = .ok (.iconst 0, 1) := by decide +kernel
theorem dX6_isUnsigned_33 : decode cX6_isUnsigned 33 = .ok (.ireturn, 1) := by decide +kernel
theorem dX6_wantQuestion_0 : decode cX6_wantQuestion 0 = .ok (.iload_n 0, 1) := by decide +kernel
theorem dX6_wantQuestion_1 : decode cX6_wantQuestion 1 = .ok (.bipush 101, 2) := by decide +kernel
theorem dX6_wantQuestion_3 : decode cX6_wantQuestion 3 = .ok (.if_icmp .eq 31, 3) := by decide +kernel
theorem dX6_wantQuestion_6 : decode cX6_wantQuestion 6 = .ok (.iload_n 0, 1) := by decide +kernel
theorem dX6_wantQuestion_7 : decode cX6_wantQuestion 7 = .ok (.bipush 99, 2) := by decide +kernel
theorem dX6_wantQuestion_9 : decode cX6_wantQuestion 9 = .ok (.if_icmp .eq 25, 3) := by decide +kernel
theorem dX6_wantQuestion_12 : decode cX6_wantQuestion 12 = .ok (.iload_n 0, 1) := by decide +kernel
theorem dX6_wantQuestion_13 : decode cX6_wantQuestion 13 = .ok (.bipush 117, 2) := by decide +kernel
theorem dX6_wantQuestion_15 : decode cX6_wantQuestion 15 = .ok (.if_icmp .eq 19, 3) := by decide +kernel
theorem dX6_wantQuestion_18 : decode cX6_wantQuestion 18 = .ok (.iload_n 0, 1) := by decide +kernel
theorem dX6_wantQuestion_19 : decode cX6_wantQuestion 19 = .ok (.bipush 109, 2) := by decide +kernel
theorem dX6_wantQuestion_21 : decode cX6_wantQuestion 21 = .ok (.if_icmp .eq 13, 3) := by decide +kernel
theorem dX6_wantQuestion_24 : decode cX6_wantQuestion 24 = .ok (.new 65, 3) := by decide +kernel
theorem dX6_wantQuestion_27 : decode cX6_wantQuestion 27 = .ok (.dup, 1) := by decide +kernel
theorem dX6_wantQuestion_28 : decode cX6_wantQuestion 28 = .ok (.ldc 227, 2) := by decide +kernel
theorem dX6_wantQuestion_30 : decode cX6_wantQuestion 30 = .ok (.invokespecial 69, 3) := by decide +kernel
theorem dX6_wantQuestion_33 : decode cX6_wantQuestion 33 = .ok (.athrow, 1) := by decide +kernel
theorem dX6_wantQuestion_34 : decode cX6_wantQuestion 34 = .ok (.return_, 1) := by decide +kernel
theorem dX6_wantNumber_0 : decode cX6_wantNumber 0 = .ok (.iload_n 0, 1) := by decide +kernel
theorem dX6_wantNumber_1 : decode cX6_wantNumber 1 = .ok (.lload_n 1, 1) := by decide +kernel
theorem dX6_wantNumber_2 : decode cX6_wantNumber 2 = .ok (.invokestatic 229, 3) := by decide +kernel
theorem dX6_wantNumber_5 : decode cX6_wantNumber 5 = .ok (.ifCond .ne 13, 3) := by decide +kernel
theorem dX6_wantNumber_8 : decode cX6_wantNumber 8 = .ok (.new 65, 3) := by decide +kernel
theorem dX6_wantNumber_11 : decode cX6_wantNumber 11 = .ok (.dup, 1) := by decide +kernel
theorem dX6_wantNumber_12 : decode cX6_wantNumber 12 = .ok (.ldc 233, 2) := by decide +kernel
theorem dX6_wantNumber_14 : decode cX6_wantNumber 14 = .ok (.invokespecial 69, 3) := by decide +kernel
theorem dX6_wantNumber_17 : decode cX6_wantNumber 17 = .ok (.athrow, 1) := by decide +kernel
theorem dX6_wantNumber_18 : decode cX6_wantNumber 18 = .ok (.return_, 1) := by decide +kernel
theorem dX6_wantRow_0 : decode cX6_wantRow 0 = .ok (.iload_n 0, 1) := by decide +kernel
theorem dX6_wantRow_1 : decode cX6_wantRow 1 = .ok (.ifCond .lt 8, 3) := by decide +kernel
theorem dX6_wantRow_4 : decode cX6_wantRow 4 = .ok (.iload_n 0, 1) := by decide +kernel
theorem dX6_wantRow_5 : decode cX6_wantRow 5 = .ok (.iconst 4, 1) := by decide +kernel
theorem dX6_wantRow_6 : decode cX6_wantRow 6 = .ok (.if_icmp .lt 13, 3) := by decide +kernel
theorem dX6_wantRow_9 : decode cX6_wantRow 9 = .ok (.new 72, 3) := by decide +kernel
theorem dX6_wantRow_12 : decode cX6_wantRow 12 = .ok (.dup, 1) := by decide +kernel
theorem dX6_wantRow_13 : decode cX6_wantRow 13 = .ok (.ldc 235, 2) := by decide +kernel
theorem dX6_wantRow_15 : decode cX6_wantRow 15 = .ok (.invokespecial 76, 3) := by decide +kernel
theorem dX6_wantRow_18 : decode cX6_wantRow 18 = .ok (.athrow, 1) := by decide +kernel
theorem dX6_wantRow_19 : decode cX6_wantRow 19 = .ok (.return_, 1) := by decide +kernel
theorem dX6_wantPlace_0 : decode cX6_wantPlace 0 = .ok (.iload_n 0, 1) := by decide +kernel
theorem dX6_wantPlace_1 : decode cX6_wantPlace 1 = .ok (.ifCond .lt 8, 3) := by decide +kernel
theorem dX6_wantPlace_4 : decode cX6_wantPlace 4 = .ok (.iload_n 0, 1) := by decide +kernel
theorem dX6_wantPlace_5 : decode cX6_wantPlace 5 = .ok (.iload_n 1, 1) := by decide +kernel
theorem dX6_wantPlace_6 : decode cX6_wantPlace 6 = .ok (.if_icmp .lt 13, 3) := by decide +kernel
theorem dX6_wantPlace_9 : decode cX6_wantPlace 9 = .ok (.new 72, 3) := by decide +kernel
theorem dX6_wantPlace_12 : decode cX6_wantPlace 12 = .ok (.dup, 1) := by decide +kernel
theorem dX6_wantPlace_13 : decode cX6_wantPlace 13 = .ok (.ldc 237, 2) := by decide +kernel
theorem dX6_wantPlace_15 : decode cX6_wantPlace 15 = .ok (.invokespecial 76, 3) := by decide +kernel
theorem dX6_wantPlace_18 : decode cX6_wantPlace 18 = .ok (.athrow, 1) := by decide +kernel
theorem dX6_wantPlace_19 : decode cX6_wantPlace 19 = .ok (.return_, 1) := by decide +kernel
theorem dX6_rowOf_0 : decode cX6_rowOf 0 = .ok (.iload_n 2, 1) := by decide +kernel
theorem dX6_rowOf_1 : decode cX6_rowOf 1 = .ok (.invokestatic 93, 3) := by decide +kernel
theorem dX6_rowOf_4 : decode cX6_rowOf 4 = .ok (.aload_n 0, 1) := by decide +kernel
theorem dX6_rowOf_5 : decode cX6_rowOf 5 = .ok (.getfield 11, 3) := by decide +kernel
theorem dX6_rowOf_8 : decode cX6_rowOf 8 = .ok (.iload_n 1, 1) := by decide +kernel
theorem dX6_rowOf_9 : decode cX6_rowOf 9 = .ok (.iconst 4, 1) := by decide +kernel
theorem dX6_rowOf_10 : decode cX6_rowOf 10 = .ok (.imul, 1) := by decide +kernel
theorem dX6_rowOf_11 : decode cX6_rowOf 11 = .ok (.iload_n 2, 1) := by decide +kernel
theorem dX6_rowOf_12 : decode cX6_rowOf 12 = .ok (.iadd, 1) := by decide +kernel
theorem dX6_rowOf_13 : decode cX6_rowOf 13 = .ok (.aaload, 1) := by decide +kernel
theorem dX6_rowOf_14 : decode cX6_rowOf 14 = .ok (.areturn, 1) := by decide +kernel
theorem dX6_spanOf_0 : decode cX6_spanOf 0 = .ok (.iload_n 1, 1) := by decide +kernel
theorem dX6_spanOf_1 : decode cX6_spanOf 1 = .ok (.ifCond .lt 9, 3) := by decide +kernel
theorem dX6_spanOf_4 : decode cX6_spanOf 4 = .ok (.iload_n 1, 1) := by decide +kernel
theorem dX6_spanOf_5 : decode cX6_spanOf 5 = .ok (.bipush 12, 2) := by decide +kernel
theorem dX6_spanOf_7 : decode cX6_spanOf 7 = .ok (.if_icmp .lt 13, 3) := by decide +kernel
theorem dX6_spanOf_10 : decode cX6_spanOf 10 = .ok (.new 72, 3) := by decide +kernel
theorem dX6_spanOf_13 : decode cX6_spanOf 13 = .ok (.dup, 1) := by decide +kernel
theorem dX6_spanOf_14 : decode cX6_spanOf 14 = .ok (.ldc 239, 2) := by decide +kernel
theorem dX6_spanOf_16 : decode cX6_spanOf 16 = .ok (.invokespecial 76, 3) := by decide +kernel
theorem dX6_spanOf_19 : decode cX6_spanOf 19 = .ok (.athrow, 1) := by decide +kernel
theorem dX6_spanOf_20 : decode cX6_spanOf 20 = .ok (.aload_n 0, 1) := by decide +kernel
theorem dX6_spanOf_21 : decode cX6_spanOf 21 = .ok (.getfield 17, 3) := by decide +kernel
theorem dX6_spanOf_24 : decode cX6_spanOf 24 = .ok (.iload_n 1, 1) := by decide +kernel
theorem dX6_spanOf_25 : decode cX6_spanOf 25 = .ok (.aaload, 1) := by decide +kernel
theorem dX6_spanOf_26 : decode cX6_spanOf 26 = .ok (.areturn, 1) := by decide +kernel
theorem dX6_fittingWord_0 : decode cX6_fittingWord 0 = .ok (.aload_n 0, 1) := by decide +kernel
theorem dX6_fittingWord_1 : decode cX6_fittingWord 1 = .ok (.iload_n 1, 1) := by decide +kernel
theorem dX6_fittingWord_2 : decode cX6_fittingWord 2 = .ok (.aload_n 2, 1) := by decide +kernel
theorem dX6_fittingWord_3 : decode cX6_fittingWord 3 = .ok (.invokevirtual 108, 3) := by decide +kernel
theorem dX6_fittingWord_6 : decode cX6_fittingWord 6 = .ok (.ifCond .ne 13, 3) := by decide +kernel
theorem dX6_fittingWord_9 : decode cX6_fittingWord 9 = .ok (.new 50, 3) := by decide +kernel
theorem dX6_fittingWord_12 : decode cX6_fittingWord 12 = .ok (.dup, 1) := by decide +kernel
theorem dX6_fittingWord_13 : decode cX6_fittingWord 13 = .ok (.ldc 241, 2) := by decide +kernel
theorem dX6_fittingWord_15 : decode cX6_fittingWord 15 = .ok (.invokespecial 54, 3) := by decide +kernel
theorem dX6_fittingWord_18 : decode cX6_fittingWord 18 = .ok (.athrow, 1) := by decide +kernel
theorem dX6_fittingWord_19 : decode cX6_fittingWord 19 = .ok (.aload_n 0, 1) := by decide +kernel
theorem dX6_fittingWord_20 : decode cX6_fittingWord 20 = .ok (.iload_n 1, 1) := by decide +kernel
theorem dX6_fittingWord_21 : decode cX6_fittingWord 21 = .ok (.aload_n 2, 1) := by decide +kernel
theorem dX6_fittingWord_22 : decode cX6_fittingWord 22 = .ok (.invokevirtual 137, 3) := by decide +kernel
theorem dX6_fittingWord_25 : decode cX6_fittingWord 25 = .ok (.areturn, 1) := by decide +kernel
theorem dX6_isFitting_0 : decode cX6_isFitting 0 = .ok (.aload_n 2, 1) := by decide +kernel
theorem dX6_isFitting_1 : decode cX6_isFitting 1 = .ok (.getfield 103, 3) := by decide +kernel
theorem dX6_isFitting_4 : decode cX6_isFitting 4 = .ok (.aload_n 0, 1) := by decide +kernel
theorem dX6_isFitting_5 : decode cX6_isFitting 5 = .ok (.getfield 11, 3) := by decide +kernel
theorem dX6_isFitting_8 : decode cX6_isFitting 8 = .ok (.iload_n 1, 1) := by decide +kernel
theorem dX6_isFitting_9 : decode cX6_isFitting 9 = .ok (.iconst 4, 1) := by decide +kernel
theorem dX6_isFitting_10 : decode cX6_isFitting 10 = .ok (.imul, 1) := by decide +kernel
theorem dX6_isFitting_11 : decode cX6_isFitting 11 = .ok (.aload_n 2, 1) := by decide +kernel
theorem dX6_isFitting_12 : decode cX6_isFitting 12 = .ok (.getfield 97, 3) := by decide +kernel
theorem dX6_isFitting_15 : decode cX6_isFitting 15 = .ok (.iadd, 1) := by decide +kernel
theorem dX6_isFitting_16 : decode cX6_isFitting 16 = .ok (.aaload, 1) := by decide +kernel
theorem dX6_isFitting_17 : decode cX6_isFitting 17 = .ok (.getfield 46, 3) := by decide +kernel
theorem dX6_isFitting_20 : decode cX6_isFitting 20 = .ok (.if_icmp .gt 7, 3) := by decide +kernel
theorem dX6_isFitting_23 : decode cX6_isFitting 23 = .ok (.iconst 1, 1) := by decide +kernel
theorem dX6_isFitting_24 : decode cX6_isFitting 24 = .ok (.goto 4, 3) := by decide +kernel
theorem dX6_isFitting_27 : decode cX6_isFitting 27 = .ok (.iconst 0, 1) := by decide +kernel
theorem dX6_isFitting_28 : decode cX6_isFitting 28 = .ok (.ireturn, 1) := by decide +kernel
theorem dX6_wordOf_0 : decode cX6_wordOf 0 = .ok (.new 124, 3) := by decide +kernel
theorem dX6_wordOf_3 : decode cX6_wordOf 3 = .ok (.dup, 1) := by decide +kernel
theorem dX6_wordOf_4 : decode cX6_wordOf 4 = .ok (.aload_n 0, 1) := by decide +kernel
theorem dX6_wordOf_5 : decode cX6_wordOf 5 = .ok (.getfield 11, 3) := by decide +kernel
theorem dX6_wordOf_8 : decode cX6_wordOf 8 = .ok (.iload_n 1, 1) := by decide +kernel
theorem dX6_wordOf_9 : decode cX6_wordOf 9 = .ok (.iconst 4, 1) := by decide +kernel
theorem dX6_wordOf_10 : decode cX6_wordOf 10 = .ok (.imul, 1) := by decide +kernel
theorem dX6_wordOf_11 : decode cX6_wordOf 11 = .ok (.aload_n 2, 1) := by decide +kernel
theorem dX6_wordOf_12 : decode cX6_wordOf 12 = .ok (.getfield 97, 3) := by decide +kernel
theorem dX6_wordOf_15 : decode cX6_wordOf 15 = .ok (.iadd, 1) := by decide +kernel
theorem dX6_wordOf_16 : decode cX6_wordOf 16 = .ok (.aaload, 1) := by decide +kernel
theorem dX6_wordOf_17 : decode cX6_wordOf 17 = .ok (.getfield 57, 3) := by decide +kernel
theorem dX6_wordOf_20 : decode cX6_wordOf 20 = .ok (.aload_n 2, 1) := by decide +kernel
theorem dX6_wordOf_21 : decode cX6_wordOf 21 = .ok (.getfield 100, 3) := by decide +kernel
theorem dX6_wordOf_24 : decode cX6_wordOf 24 = .ok (.aload_n 2, 1) := by decide +kernel
theorem dX6_wordOf_25 : decode cX6_wordOf 25 = .ok (.getfield 103, 3) := by decide +kernel
theorem dX6_wordOf_28 : decode cX6_wordOf 28 = .ok (.invokespecial 126, 3) := by decide +kernel
theorem dX6_wordOf_31 : decode cX6_wordOf 31 = .ok (.areturn, 1) := by decide +kernel
theorem dX6_putIntoList_0 : decode cX6_putIntoList 0 = .ok (.aload_n 0, 1) := by decide +kernel
theorem dX6_putIntoList_1 : decode cX6_putIntoList 1 = .ok (.iload_n 1, 1) := by decide +kernel
theorem dX6_putIntoList_2 : decode cX6_putIntoList 2 = .ok (.aload_n 0, 1) := by decide +kernel
theorem dX6_putIntoList_3 : decode cX6_putIntoList 3 = .ok (.getfield 17, 3) := by decide +kernel
theorem dX6_putIntoList_6 : decode cX6_putIntoList 6 = .ok (.iload_n 3, 1) := by decide +kernel
theorem dX6_putIntoList_7 : decode cX6_putIntoList 7 = .ok (.aaload, 1) := by decide +kernel
theorem dX6_putIntoList_8 : decode cX6_putIntoList 8 = .ok (.invokevirtual 137, 3) := by decide +kernel
theorem dX6_putIntoList_11 : decode cX6_putIntoList 11 = .ok (.astore 4, 2) := by decide +kernel
theorem dX6_putIntoList_13 : decode cX6_putIntoList 13 = .ok (.aload_n 0, 1) := by decide +kernel
theorem dX6_putIntoList_14 : decode cX6_putIntoList 14 = .ok (.getfield 144, 3) := by decide +kernel
theorem dX6_putIntoList_17 : decode cX6_putIntoList 17 = .ok (.istore 5, 2) := by decide +kernel
theorem dX6_putIntoList_19 : decode cX6_putIntoList 19 = .ok (.iload 5, 2) := by decide +kernel
theorem dX6_putIntoList_21 : decode cX6_putIntoList 21 = .ok (.ifCond .le 53, 3) := by decide +kernel
theorem dX6_putIntoList_24 : decode cX6_putIntoList 24 = .ok (.aload_n 0, 1) := by decide +kernel
theorem dX6_putIntoList_25 : decode cX6_putIntoList 25 = .ok (.iload_n 1, 1) := by decide +kernel
theorem dX6_putIntoList_26 : decode cX6_putIntoList 26 = .ok (.aload_n 0, 1) := by decide +kernel
theorem dX6_putIntoList_27 : decode cX6_putIntoList 27 = .ok (.getfield 17, 3) := by decide +kernel
theorem dX6_putIntoList_30 : decode cX6_putIntoList 30 = .ok (.aload_n 0, 1) := by decide +kernel
theorem dX6_putIntoList_31 : decode cX6_putIntoList 31 = .ok (.getfield 21, 3) := by decide +kernel
theorem dX6_putIntoList_34 : decode cX6_putIntoList 34 = .ok (.iload 5, 2) := by decide +kernel
theorem dX6_putIntoList_36 : decode cX6_putIntoList 36 = .ok (.iconst 1, 1) := by decide +kernel
theorem dX6_putIntoList_37 : decode cX6_putIntoList 37 = .ok (.isub, 1) := by decide +kernel
theorem dX6_putIntoList_38 : decode cX6_putIntoList 38 = .ok (.iaload, 1) := by decide +kernel
theorem dX6_putIntoList_39 : decode cX6_putIntoList 39 = .ok (.aaload, 1) := by decide +kernel
theorem dX6_putIntoList_40 : decode cX6_putIntoList 40 = .ok (.invokevirtual 137, 3) := by decide +kernel
theorem dX6_putIntoList_43 : decode cX6_putIntoList 43 = .ok (.aload 4, 2) := by decide +kernel
theorem dX6_putIntoList_45 : decode cX6_putIntoList 45 = .ok (.iload_n 2, 1) := by decide +kernel
theorem dX6_putIntoList_46 : decode cX6_putIntoList 46 = .ok (.invokestatic 140, 3) := by decide +kernel
theorem dX6_putIntoList_49 : decode cX6_putIntoList 49 = .ok (.ifCond .le 25, 3) := by decide +kernel
theorem dX6_putIntoList_52 : decode cX6_putIntoList 52 = .ok (.aload_n 0, 1) := by decide +kernel
theorem dX6_putIntoList_53 : decode cX6_putIntoList 53 = .ok (.getfield 21, 3) := by decide +kernel
theorem dX6_putIntoList_56 : decode cX6_putIntoList 56 = .ok (.iload 5, 2) := by decide +kernel
theorem dX6_putIntoList_58 : decode cX6_putIntoList 58 = .ok (.aload_n 0, 1) := by decide +kernel
theorem dX6_putIntoList_59 : decode cX6_putIntoList 59 = .ok (.getfield 21, 3) := by decide +kernel
theorem dX6_putIntoList_62 : decode cX6_putIntoList 62 = .ok (.iload 5, 2) := by decide +kernel
theorem dX6_putIntoList_64 : decode cX6_putIntoList 64 = .ok (.iconst 1, 1) := by decide +kernel
theorem dX6_putIntoList_65 : decode cX6_putIntoList 65 = .ok (.isub, 1) := by decide +kernel
theorem dX6_putIntoList_66 : decode cX6_putIntoList 66 = .ok (.iaload, 1) := by decide +kernel
theorem dX6_putIntoList_67 : decode cX6_putIntoList 67 = .ok (.iastore, 1) := by decide +kernel
theorem dX6_putIntoList_68 : decode cX6_putIntoList 68 = .ok (.iinc 5 (-1), 3) := by decide +kernel
theorem dX6_putIntoList_71 : decode cX6_putIntoList 71 = .ok (.goto (-52), 3) := by decide +kernel
theorem dX6_putIntoList_74 : decode cX6_putIntoList 74 = .ok (.aload_n 0, 1) := by decide +kernel
theorem dX6_putIntoList_75 : decode cX6_putIntoList 75 = .ok (.getfield 21, 3) := by decide +kernel
theorem dX6_putIntoList_78 : decode cX6_putIntoList 78 = .ok (.iload 5, 2) := by decide +kernel
theorem dX6_putIntoList_80 : decode cX6_putIntoList 80 = .ok (.iload_n 3, 1) := by decide +kernel
theorem dX6_putIntoList_81 : decode cX6_putIntoList 81 = .ok (.iastore, 1) := by decide +kernel
theorem dX6_putIntoList_82 : decode cX6_putIntoList 82 = .ok (.aload_n 0, 1) := by decide +kernel
theorem dX6_putIntoList_83 : decode cX6_putIntoList 83 = .ok (.dup, 1) := by decide +kernel
theorem dX6_putIntoList_84 : decode cX6_putIntoList 84 = .ok (.getfield 144, 3) := by decide +kernel
theorem dX6_putIntoList_87 : decode cX6_putIntoList 87 = .ok (.iconst 1, 1) := by decide +kernel
theorem dX6_putIntoList_88 : decode cX6_putIntoList 88 = .ok (.iadd, 1) := by decide +kernel
theorem dX6_putIntoList_89 : decode cX6_putIntoList 89 = .ok (.putfield 144, 3) := by decide +kernel
theorem dX6_putIntoList_92 : decode cX6_putIntoList 92 = .ok (.return_, 1) := by decide +kernel
theorem dX6_fittingAhead_0 : decode cX6_fittingAhead 0 = .ok (.iconst 0, 1) := by decide +kernel
theorem dX6_fittingAhead_1 : decode cX6_fittingAhead 1 = .ok (.istore_n 3, 1) := by decide +kernel
theorem dX6_fittingAhead_2 : decode cX6_fittingAhead 2 = .ok (.iconst 0, 1) := by decide +kernel
theorem dX6_fittingAhead_3 : decode cX6_fittingAhead 3 = .ok (.istore 4, 2) := by decide +kernel
theorem dX6_fittingAhead_5 : decode cX6_fittingAhead 5 = .ok (.iload 4, 2) := by decide +kernel
theorem dX6_fittingAhead_7 : decode cX6_fittingAhead 7 = .ok (.iload_n 2, 1) := by decide +kernel
theorem dX6_fittingAhead_8 : decode cX6_fittingAhead 8 = .ok (.if_icmp .ge 27, 3) := by decide +kernel
theorem dX6_fittingAhead_11 : decode cX6_fittingAhead 11 = .ok (.aload_n 0, 1) := by decide +kernel
theorem dX6_fittingAhead_12 : decode cX6_fittingAhead 12 = .ok (.iload_n 1, 1) := by decide +kernel
theorem dX6_fittingAhead_13 : decode cX6_fittingAhead 13 = .ok (.aload_n 0, 1) := by decide +kernel
theorem dX6_fittingAhead_14 : decode cX6_fittingAhead 14 = .ok (.getfield 17, 3) := by decide +kernel
theorem dX6_fittingAhead_17 : decode cX6_fittingAhead 17 = .ok (.iload 4, 2) := by decide +kernel
theorem dX6_fittingAhead_19 : decode cX6_fittingAhead 19 = .ok (.aaload, 1) := by decide +kernel
theorem dX6_fittingAhead_20 : decode cX6_fittingAhead 20 = .ok (.invokevirtual 108, 3) := by decide +kernel
theorem dX6_fittingAhead_23 : decode cX6_fittingAhead 23 = .ok (.ifCond .eq 6, 3) := by decide +kernel
theorem dX6_fittingAhead_26 : decode cX6_fittingAhead 26 = .ok (.iinc 3 1, 3) := by decide +kernel
theorem dX6_fittingAhead_29 : decode cX6_fittingAhead 29 = .ok (.iinc 4 1, 3) := by decide +kernel
theorem dX6_fittingAhead_32 : decode cX6_fittingAhead 32 = .ok (.goto (-27), 3) := by decide +kernel
theorem dX6_fittingAhead_35 : decode cX6_fittingAhead 35 = .ok (.iload_n 3, 1) := by decide +kernel
theorem dX6_fittingAhead_36 : decode cX6_fittingAhead 36 = .ok (.ireturn, 1) := by decide +kernel
theorem dX6_sameAhead_0 : decode cX6_sameAhead 0 = .ok (.aload_n 0, 1) := by decide +kernel
theorem dX6_sameAhead_1 : decode cX6_sameAhead 1 = .ok (.iload_n 1, 1) := by decide +kernel
theorem dX6_sameAhead_2 : decode cX6_sameAhead 2 = .ok (.aload_n 0, 1) := by decide +kernel
theorem dX6_sameAhead_3 : decode cX6_sameAhead 3 = .ok (.getfield 17, 3) := by decide +kernel
theorem dX6_sameAhead_6 : decode cX6_sameAhead 6 = .ok (.iload_n 2, 1) := by decide +kernel
theorem dX6_sameAhead_7 : decode cX6_sameAhead 7 = .ok (.aaload, 1) := by decide +kernel
theorem dX6_sameAhead_8 : decode cX6_sameAhead 8 = .ok (.invokevirtual 137, 3) := by decide +kernel
theorem dX6_sameAhead_11 : decode cX6_sameAhead 11 = .ok (.astore_n 3, 1) := by decide +kernel
theorem dX6_sameAhead_12 : decode cX6_sameAhead 12 = .ok (.iconst 0, 1) := by decide +kernel
theorem dX6_sameAhead_13 : decode cX6_sameAhead 13 = .ok (.istore 4, 2) := by decide +kernel
theorem dX6_sameAhead_15 : decode cX6_sameAhead 15 = .ok (.iconst 0, 1) := by decide +kernel
theorem dX6_sameAhead_16 : decode cX6_sameAhead 16 = .ok (.istore 5, 2) := by decide +kernel
theorem dX6_sameAhead_18 : decode cX6_sameAhead 18 = .ok (.iload 5, 2) := by decide +kernel
theorem dX6_sameAhead_20 : decode cX6_sameAhead 20 = .ok (.iload_n 2, 1) := by decide +kernel
theorem dX6_sameAhead_21 : decode cX6_sameAhead 21 = .ok (.if_icmp .ge 46, 3) := by decide +kernel
theorem dX6_sameAhead_24 : decode cX6_sameAhead 24 = .ok (.aload_n 0, 1) := by decide +kernel
theorem dX6_sameAhead_25 : decode cX6_sameAhead 25 = .ok (.iload_n 1, 1) := by decide +kernel
theorem dX6_sameAhead_26 : decode cX6_sameAhead 26 = .ok (.aload_n 0, 1) := by decide +kernel
theorem dX6_sameAhead_27 : decode cX6_sameAhead 27 = .ok (.getfield 17, 3) := by decide +kernel
theorem dX6_sameAhead_30 : decode cX6_sameAhead 30 = .ok (.iload 5, 2) := by decide +kernel
theorem dX6_sameAhead_32 : decode cX6_sameAhead 32 = .ok (.aaload, 1) := by decide +kernel
theorem dX6_sameAhead_33 : decode cX6_sameAhead 33 = .ok (.invokevirtual 108, 3) := by decide +kernel
theorem dX6_sameAhead_36 : decode cX6_sameAhead 36 = .ok (.ifCond .eq 25, 3) := by decide +kernel
theorem dX6_sameAhead_39 : decode cX6_sameAhead 39 = .ok (.aload_n 0, 1) := by decide +kernel
theorem dX6_sameAhead_40 : decode cX6_sameAhead 40 = .ok (.iload_n 1, 1) := by decide +kernel
theorem dX6_sameAhead_41 : decode cX6_sameAhead 41 = .ok (.aload_n 0, 1) := by decide +kernel
theorem dX6_sameAhead_42 : decode cX6_sameAhead 42 = .ok (.getfield 17, 3) := by decide +kernel
theorem dX6_sameAhead_45 : decode cX6_sameAhead 45 = .ok (.iload 5, 2) := by decide +kernel
theorem dX6_sameAhead_47 : decode cX6_sameAhead 47 = .ok (.aaload, 1) := by decide +kernel
theorem dX6_sameAhead_48 : decode cX6_sameAhead 48 = .ok (.invokevirtual 137, 3) := by decide +kernel
theorem dX6_sameAhead_51 : decode cX6_sameAhead 51 = .ok (.aload_n 3, 1) := by decide +kernel
theorem dX6_sameAhead_52 : decode cX6_sameAhead 52 = .ok (.invokestatic 243, 3) := by decide +kernel
theorem dX6_sameAhead_55 : decode cX6_sameAhead 55 = .ok (.ifCond .eq 6, 3) := by decide +kernel
theorem dX6_sameAhead_58 : decode cX6_sameAhead 58 = .ok (.iinc 4 1, 3) := by decide +kernel
theorem dX6_sameAhead_61 : decode cX6_sameAhead 61 = .ok (.iinc 5 1, 3) := by decide +kernel
theorem dX6_sameAhead_64 : decode cX6_sameAhead 64 = .ok (.goto (-46), 3) := by decide +kernel
theorem dX6_sameAhead_67 : decode cX6_sameAhead 67 = .ok (.iload 4, 2) := by decide +kernel
theorem dX6_sameAhead_69 : decode cX6_sameAhead 69 = .ok (.ireturn, 1) := by decide +kernel
theorem dX6_isNumberOf_0 : decode cX6_isNumberOf 0 = .ok (.lload_n 1, 1) := by decide +kernel
theorem dX6_isNumberOf_1 : decode cX6_isNumberOf 1 = .ok (.getstatic 247, 3) := by decide +kernel
theorem dX6_isNumberOf_4 : decode cX6_isNumberOf 4 = .ok (.iload_n 0, 1) := by decide +kernel
theorem dX6_isNumberOf_5 : decode cX6_isNumberOf 5 = .ok (.laload, 1) := by decide +kernel
theorem dX6_isNumberOf_6 : decode cX6_isNumberOf 6 = .ok (.lcmp, 1) := by decide +kernel
theorem dX6_isNumberOf_7 : decode cX6_isNumberOf 7 = .ok (.ifCond .lt 21, 3) := by decide +kernel
theorem dX6_isNumberOf_10 : decode cX6_isNumberOf 10 = .ok (.lload_n 1, 1) := by decide +kernel
theorem dX6_isNumberOf_11 : decode cX6_isNumberOf 11 = .ok (.getstatic 247, 3) := by decide +kernel
theorem dX6_isNumberOf_14 : decode cX6_isNumberOf 14 = .ok (.iload_n 0, 1) := by decide +kernel
theorem dX6_isNumberOf_15 : decode cX6_isNumberOf 15 = .ok (.laload, 1) := by decide +kernel
theorem dX6_isNumberOf_16 : decode cX6_isNumberOf 16 = .ok (.ldc2_w 250, 3) := by decide +kernel
theorem dX6_isNumberOf_19 : decode cX6_isNumberOf 19 = .ok (.lxor, 1) := by decide +kernel
theorem dX6_isNumberOf_20 : decode cX6_isNumberOf 20 = .ok (.lcmp, 1) := by decide +kernel
theorem dX6_isNumberOf_21 : decode cX6_isNumberOf 21 = .ok (.ifCond .gt 7, 3) := by decide +kernel
theorem dX6_isNumberOf_24 : decode cX6_isNumberOf 24 = .ok (.iconst 1, 1) := by decide +kernel
theorem dX6_isNumberOf_25 : decode cX6_isNumberOf 25 = .ok (.goto 4, 3) := by decide +kernel
theorem dX6_isNumberOf_28 : decode cX6_isNumberOf 28 = .ok (.iconst 0, 1) := by decide +kernel
theorem dX6_isNumberOf_29 : decode cX6_isNumberOf 29 = .ok (.ireturn, 1) := by decide +kernel
theorem dX6_compareNumbers_0 : decode cX6_compareNumbers 0 = .ok (.iload 4, 2) := by decide +kernel
theorem dX6_compareNumbers_2 : decode cX6_compareNumbers 2 = .ok (.ifCond .eq 11, 3) := by decide +kernel
theorem dX6_compareNumbers_5 : decode cX6_compareNumbers 5 = .ok (.lload_n 0, 1) := by decide +kernel
theorem dX6_compareNumbers_6 : decode cX6_compareNumbers 6 = .ok (.ldc2_w 252, 3) := by decide +kernel
theorem dX6_compareNumbers_9 : decode cX6_compareNumbers 9 = .ok (.lxor, 1) := by decide +kernel
theorem dX6_compareNumbers_10 : decode cX6_compareNumbers 10 = .ok (.goto 4, 3) := by decide +kernel
theorem dX6_compareNumbers_13 : decode cX6_compareNumbers 13 = .ok (.lload_n 0, 1) := by decide +kernel
theorem dX6_compareNumbers_14 : decode cX6_compareNumbers 14 = .ok (.lstore 5, 2) := by decide +kernel
theorem dX6_compareNumbers_16 : decode cX6_compareNumbers 16 = .ok (.iload 4, 2) := by decide +kernel
theorem dX6_compareNumbers_18 : decode cX6_compareNumbers 18 = .ok (.ifCond .eq 11, 3) := by decide +kernel
theorem dX6_compareNumbers_21 : decode cX6_compareNumbers 21 = .ok (.lload_n 2, 1) := by decide +kernel
theorem dX6_compareNumbers_22 : decode cX6_compareNumbers 22 = .ok (.ldc2_w 252, 3) := by decide +kernel
theorem dX6_compareNumbers_25 : decode cX6_compareNumbers 25 = .ok (.lxor, 1) := by decide +kernel
theorem dX6_compareNumbers_26 : decode cX6_compareNumbers 26 = .ok (.goto 4, 3) := by decide +kernel
theorem dX6_compareNumbers_29 : decode cX6_compareNumbers 29 = .ok (.lload_n 2, 1) := by decide +kernel
theorem dX6_compareNumbers_30 : decode cX6_compareNumbers 30 = .ok (.lstore 7, 2) := by decide +kernel
theorem dX6_compareNumbers_32 : decode cX6_compareNumbers 32 = .ok (.lload 5, 2) := by decide +kernel
theorem dX6_compareNumbers_34 : decode cX6_compareNumbers 34 = .ok (.lload 7, 2) := by decide +kernel
theorem dX6_compareNumbers_36 : decode cX6_compareNumbers 36 = .ok (.lcmp, 1) := by decide +kernel
theorem dX6_compareNumbers_37 : decode cX6_compareNumbers 37 = .ok (.ifCond .ne 5, 3) := by decide +kernel
theorem dX6_compareNumbers_40 : decode cX6_compareNumbers 40 = .ok (.iconst 0, 1) := by decide +kernel
theorem dX6_compareNumbers_41 : decode cX6_compareNumbers 41 = .ok (.ireturn, 1) := by decide +kernel
theorem dX6_compareNumbers_42 : decode cX6_compareNumbers 42 = .ok (.lload 5, 2) := by decide +kernel
theorem dX6_compareNumbers_44 : decode cX6_compareNumbers 44 = .ok (.lload 7, 2) := by decide +kernel
theorem dX6_compareNumbers_46 : decode cX6_compareNumbers 46 = .ok (.lcmp, 1) := by decide +kernel
theorem dX6_compareNumbers_47 : decode cX6_compareNumbers 47 = .ok (.ifCond .ge 7, 3) := by decide +kernel
theorem dX6_compareNumbers_50 : decode cX6_compareNumbers 50 = .ok (.iconst (-1), 1) := by decide +kernel
theorem dX6_compareNumbers_51 : decode cX6_compareNumbers 51 = .ok (.goto 4, 3) := by decide +kernel
theorem dX6_compareNumbers_54 : decode cX6_compareNumbers 54 = .ok (.iconst 1, 1) := by decide +kernel
theorem dX6_compareNumbers_55 : decode cX6_compareNumbers 55 = .ok (.ireturn, 1) := by decide +kernel
theorem dX6_canChange_0 : decode cX6_canChange 0 = .ok (.iload_n 1, 1) := by decide +kernel
theorem dX6_canChange_1 : decode cX6_canChange 1 = .ok (.bipush 117, 2) := by decide +kernel
theorem dX6_canChange_3 : decode cX6_canChange 3 = .ok (.if_icmp .ne 16, 3) := by decide +kernel
theorem dX6_canChange_6 : decode cX6_canChange 6 = .ok (.iload_n 0, 1) := by decide +kernel
theorem dX6_canChange_7 : decode cX6_canChange 7 = .ok (.iconst 3, 1) := by decide +kernel
theorem dX6_canChange_8 : decode cX6_canChange 8 = .ok (.if_icmp .ne 11, 3) := by decide +kernel
theorem dX6_canChange_11 : decode cX6_canChange 11 = .ok (.lload_n 2, 1) := by decide +kernel
theorem dX6_canChange_12 : decode cX6_canChange 12 = .ok (.lconst 0, 1) := by decide +kernel
theorem dX6_canChange_13 : decode cX6_canChange 13 = .ok (.lcmp, 1) := by decide +kernel
theorem dX6_canChange_14 : decode cX6_canChange 14 = .ok (.ifCond .ge 5, 3) := by decide +kernel
theorem dX6_canChange_17 : decode cX6_canChange 17 = .ok (.iconst 0, 1) := by decide +kernel
theorem dX6_canChange_18 : decode cX6_canChange 18 = .ok (.ireturn, 1) := by decide +kernel
theorem dX6_canChange_19 : decode cX6_canChange 19 = .ok (.iload 4, 2) := by decide +kernel
theorem dX6_canChange_21 : decode cX6_canChange 21 = .ok (.iload_n 0, 1) := by decide +kernel
theorem dX6_canChange_22 : decode cX6_canChange 22 = .ok (.iload_n 1, 1) := by decide +kernel
theorem dX6_canChange_23 : decode cX6_canChange 23 = .ok (.lload_n 2, 1) := by decide +kernel
theorem dX6_canChange_24 : decode cX6_canChange 24 = .ok (.invokestatic 85, 3) := by decide +kernel
theorem dX6_canChange_27 : decode cX6_canChange 27 = .ok (.invokestatic 229, 3) := by decide +kernel
theorem dX6_canChange_30 : decode cX6_canChange 30 = .ok (.ireturn, 1) := by decide +kernel
theorem dX6_changed_0 : decode cX6_changed 0 = .ok (.iload_n 1, 1) := by decide +kernel
theorem dX6_changed_1 : decode cX6_changed 1 = .ok (.bipush 117, 2) := by decide +kernel
theorem dX6_changed_3 : decode cX6_changed 3 = .ok (.if_icmp .ne 25, 3) := by decide +kernel
theorem dX6_changed_6 : decode cX6_changed 6 = .ok (.lload_n 2, 1) := by decide +kernel
theorem dX6_changed_7 : decode cX6_changed 7 = .ok (.lconst 0, 1) := by decide +kernel
theorem dX6_changed_8 : decode cX6_changed 8 = .ok (.lcmp, 1) := by decide +kernel
theorem dX6_changed_9 : decode cX6_changed 9 = .ok (.ifCond .ge 17, 3) := by decide +kernel
theorem dX6_changed_12 : decode cX6_changed 12 = .ok (.lload_n 2, 1) := by decide +kernel
theorem dX6_changed_13 : decode cX6_changed 13 = .ok (.ldc2_w 254, 3) := by decide +kernel
theorem dX6_changed_16 : decode cX6_changed 16 = .ok (.getstatic 247, 3) := by decide +kernel
theorem dX6_changed_19 : decode cX6_changed 19 = .ok (.iload_n 0, 1) := by decide +kernel
theorem dX6_changed_20 : decode cX6_changed 20 = .ok (.laload, 1) := by decide +kernel
theorem dX6_changed_21 : decode cX6_changed 21 = .ok (.lmul, 1) := by decide +kernel
theorem dX6_changed_22 : decode cX6_changed 22 = .ok (.lsub, 1) := by decide +kernel
theorem dX6_changed_23 : decode cX6_changed 23 = .ok (.goto 4, 3) := by decide +kernel
theorem dX6_changed_26 : decode cX6_changed 26 = .ok (.lload_n 2, 1) := by decide +kernel
theorem dX6_changed_27 : decode cX6_changed 27 = .ok (.lreturn, 1) := by decide +kernel
theorem dX6_changed_28 : decode cX6_changed 28 = .ok (.iload_n 1, 1) := by decide +kernel
theorem dX6_changed_29 : decode cX6_changed 29 = .ok (.bipush 116, 2) := by decide +kernel
theorem dX6_changed_31 : decode cX6_changed 31 = .ok (.if_icmp .ne 27, 3) := by decide +kernel
theorem dX6_changed_34 : decode cX6_changed 34 = .ok (.lload_n 2, 1) := by decide +kernel
theorem dX6_changed_35 : decode cX6_changed 35 = .ok (.lconst 0, 1) := by decide +kernel
theorem dX6_changed_36 : decode cX6_changed 36 = .ok (.lcmp, 1) := by decide +kernel
theorem dX6_changed_37 : decode cX6_changed 37 = .ok (.ifCond .ge 13, 3) := by decide +kernel
theorem dX6_changed_40 : decode cX6_changed 40 = .ok (.lload_n 2, 1) := by decide +kernel
theorem dX6_changed_41 : decode cX6_changed 41 = .ok (.getstatic 247, 3) := by decide +kernel
theorem dX6_changed_44 : decode cX6_changed 44 = .ok (.iload_n 0, 1) := by decide +kernel
theorem dX6_changed_45 : decode cX6_changed 45 = .ok (.laload, 1) := by decide +kernel
theorem dX6_changed_46 : decode cX6_changed 46 = .ok (.lsub, 1) := by decide +kernel
theorem dX6_changed_47 : decode cX6_changed 47 = .ok (.goto 10, 3) := by decide +kernel
theorem dX6_changed_50 : decode cX6_changed 50 = .ok (.lload_n 2, 1) := by decide +kernel
theorem dX6_changed_51 : decode cX6_changed 51 = .ok (.getstatic 247, 3) := by decide +kernel
theorem dX6_changed_54 : decode cX6_changed 54 = .ok (.iload_n 0, 1) := by decide +kernel
theorem dX6_changed_55 : decode cX6_changed 55 = .ok (.laload, 1) := by decide +kernel
theorem dX6_changed_56 : decode cX6_changed 56 = .ok (.ladd, 1) := by decide +kernel
theorem dX6_changed_57 : decode cX6_changed 57 = .ok (.lreturn, 1) := by decide +kernel
theorem dX6_changed_58 : decode cX6_changed 58 = .ok (.lload_n 2, 1) := by decide +kernel
theorem dX6_changed_59 : decode cX6_changed 59 = .ok (.lreturn, 1) := by decide +kernel
theorem dX6_alike_0 : decode cX6_alike 0 = .ok (.aload_n 0, 1) := by decide +kernel
theorem dX6_alike_1 : decode cX6_alike 1 = .ok (.invokevirtual 168, 3) := by decide +kernel
theorem dX6_alike_4 : decode cX6_alike 4 = .ok (.aload_n 1, 1) := by decide +kernel
theorem dX6_alike_5 : decode cX6_alike 5 = .ok (.invokevirtual 168, 3) := by decide +kernel
theorem dX6_alike_8 : decode cX6_alike 8 = .ok (.invokestatic 256, 3) := by decide +kernel
theorem dX6_alike_11 : decode cX6_alike 11 = .ok (.istore_n 2, 1) := by decide +kernel
theorem dX6_alike_12 : decode cX6_alike 12 = .ok (.iconst 0, 1) := by decide +kernel
theorem dX6_alike_13 : decode cX6_alike 13 = .ok (.istore_n 3, 1) := by decide +kernel
theorem dX6_alike_14 : decode cX6_alike 14 = .ok (.iload_n 3, 1) := by decide +kernel
theorem dX6_alike_15 : decode cX6_alike 15 = .ok (.iload_n 2, 1) := by decide +kernel
theorem dX6_alike_16 : decode cX6_alike 16 = .ok (.if_icmp .ge 23, 3) := by decide +kernel
theorem dX6_alike_19 : decode cX6_alike 19 = .ok (.aload_n 0, 1) := by decide +kernel
theorem dX6_alike_20 : decode cX6_alike 20 = .ok (.iload_n 3, 1) := by decide +kernel
theorem dX6_alike_21 : decode cX6_alike 21 = .ok (.invokevirtual 261, 3) := by decide +kernel
theorem dX6_alike_24 : decode cX6_alike 24 = .ok (.aload_n 1, 1) := by decide +kernel
theorem dX6_alike_25 : decode cX6_alike 25 = .ok (.iload_n 3, 1) := by decide +kernel
theorem dX6_alike_26 : decode cX6_alike 26 = .ok (.invokevirtual 261, 3) := by decide +kernel
theorem dX6_alike_29 : decode cX6_alike 29 = .ok (.lcmp, 1) := by decide +kernel
theorem dX6_alike_30 : decode cX6_alike 30 = .ok (.ifCond .ne 9, 3) := by decide +kernel
theorem dX6_alike_33 : decode cX6_alike 33 = .ok (.iinc 3 1, 3) := by decide +kernel
theorem dX6_alike_36 : decode cX6_alike 36 = .ok (.goto (-22), 3) := by decide +kernel
theorem dX6_alike_39 : decode cX6_alike 39 = .ok (.iload_n 3, 1) := by decide +kernel
theorem dX6_alike_40 : decode cX6_alike 40 = .ok (.ireturn, 1) := by decide +kernel
theorem dX6_isSame_0 : decode cX6_isSame 0 = .ok (.aload_n 0, 1) := by decide +kernel
theorem dX6_isSame_1 : decode cX6_isSame 1 = .ok (.invokevirtual 168, 3) := by decide +kernel
theorem dX6_isSame_4 : decode cX6_isSame 4 = .ok (.aload_n 1, 1) := by decide +kernel
theorem dX6_isSame_5 : decode cX6_isSame 5 = .ok (.invokevirtual 168, 3) := by decide +kernel
theorem dX6_isSame_8 : decode cX6_isSame 8 = .ok (.if_icmp .ne 19, 3) := by decide +kernel
theorem dX6_isSame_11 : decode cX6_isSame 11 = .ok (.aload_n 0, 1) := by decide +kernel
theorem dX6_isSame_12 : decode cX6_isSame 12 = .ok (.aload_n 1, 1) := by decide +kernel
theorem dX6_isSame_13 : decode cX6_isSame 13 = .ok (.invokestatic 129, 3) := by decide +kernel
theorem dX6_isSame_16 : decode cX6_isSame 16 = .ok (.aload_n 0, 1) := by decide +kernel
theorem dX6_isSame_17 : decode cX6_isSame 17 = .ok (.invokevirtual 168, 3) := by decide +kernel
theorem dX6_isSame_20 : decode cX6_isSame 20 = .ok (.if_icmp .ne 7, 3) := by decide +kernel
theorem dX6_isSame_23 : decode cX6_isSame 23 = .ok (.iconst 1, 1) := by decide +kernel
theorem dX6_isSame_24 : decode cX6_isSame 24 = .ok (.goto 4, 3) := by decide +kernel
theorem dX6_isSame_27 : decode cX6_isSame 27 = .ok (.iconst 0, 1) := by decide +kernel
theorem dX6_isSame_28 : decode cX6_isSame 28 = .ok (.ireturn, 1) := by decide +kernel
theorem dX6_mismatch_0 : decode cX6_mismatch 0 = .ok (.aload_n 0, 1) := by decide +kernel
theorem dX6_mismatch_1 : decode cX6_mismatch 1 = .ok (.aload_n 1, 1) := by decide +kernel
theorem dX6_mismatch_2 : decode cX6_mismatch 2 = .ok (.invokestatic 129, 3) := by decide +kernel
theorem dX6_mismatch_5 : decode cX6_mismatch 5 = .ok (.istore_n 2, 1) := by decide +kernel
theorem dX6_mismatch_6 : decode cX6_mismatch 6 = .ok (.iload_n 2, 1) := by decide +kernel
theorem dX6_mismatch_7 : decode cX6_mismatch 7 = .ok (.aload_n 0, 1) := by decide +kernel
theorem dX6_mismatch_8 : decode cX6_mismatch 8 = .ok (.invokevirtual 168, 3) := by decide +kernel
theorem dX6_mismatch_11 : decode cX6_mismatch 11 = .ok (.if_icmp .ne 15, 3) := by decide +kernel
theorem dX6_mismatch_14 : decode cX6_mismatch 14 = .ok (.iload_n 2, 1) := by decide +kernel
theorem dX6_mismatch_15 : decode cX6_mismatch 15 = .ok (.aload_n 1, 1) := by decide +kernel
theorem dX6_mismatch_16 : decode cX6_mismatch 16 = .ok (.invokevirtual 168, 3) := by decide +kernel
theorem dX6_mismatch_19 : decode cX6_mismatch 19 = .ok (.if_icmp .ne 7, 3) := by decide +kernel
theorem dX6_mismatch_22 : decode cX6_mismatch 22 = .ok (.iconst (-1), 1) := by decide +kernel
theorem dX6_mismatch_23 : decode cX6_mismatch 23 = .ok (.goto 4, 3) := by decide +kernel
theorem dX6_mismatch_26 : decode cX6_mismatch 26 = .ok (.iload_n 2, 1) := by decide +kernel
theorem dX6_mismatch_27 : decode cX6_mismatch 27 = .ok (.ireturn, 1) := by decide +kernel
theorem dX6_compareWords_0 : decode cX6_compareWords 0 = .ok (.aload_n 0, 1) := by decide +kernel
theorem dX6_compareWords_1 : decode cX6_compareWords 1 = .ok (.aload_n 1, 1) := by decide +kernel
theorem dX6_compareWords_2 : decode cX6_compareWords 2 = .ok (.invokestatic 129, 3) := by decide +kernel
theorem dX6_compareWords_5 : decode cX6_compareWords 5 = .ok (.istore_n 3, 1) := by decide +kernel
theorem dX6_compareWords_6 : decode cX6_compareWords 6 = .ok (.iload_n 3, 1) := by decide +kernel
theorem dX6_compareWords_7 : decode cX6_compareWords 7 = .ok (.aload_n 0, 1) := by decide +kernel
theorem dX6_compareWords_8 : decode cX6_compareWords 8 = .ok (.invokevirtual 168, 3) := by decide +kernel
theorem dX6_compareWords_11 : decode cX6_compareWords 11 = .ok (.if_icmp .ge 26, 3) := by decide +kernel
theorem dX6_compareWords_14 : decode cX6_compareWords 14 = .ok (.iload_n 3, 1) := by decide +kernel
theorem dX6_compareWords_15 : decode cX6_compareWords 15 = .ok (.aload_n 1, 1) := by decide +kernel
theorem dX6_compareWords_16 : decode cX6_compareWords 16 = .ok (.invokevirtual 168, 3) := by decide +kernel
theorem dX6_compareWords_19 : decode cX6_compareWords 19 = .ok (.if_icmp .ge 18, 3) := by decide +kernel
theorem dX6_compareWords_22 : decode cX6_compareWords 22 = .ok (.aload_n 0, 1) := by decide +kernel
theorem dX6_compareWords_23 : decode cX6_compareWords 23 = .ok (.iload_n 3, 1) := by decide +kernel
theorem dX6_compareWords_24 : decode cX6_compareWords 24 = .ok (.invokevirtual 261, 3) := by decide +kernel
theorem dX6_compareWords_27 : decode cX6_compareWords 27 = .ok (.aload_n 1, 1) := by decide +kernel
theorem dX6_compareWords_28 : decode cX6_compareWords 28 = .ok (.iload_n 3, 1) := by decide +kernel
theorem dX6_compareWords_29 : decode cX6_compareWords 29 = .ok (.invokevirtual 261, 3) := by decide +kernel
theorem dX6_compareWords_32 : decode cX6_compareWords 32 = .ok (.iload_n 2, 1) := by decide +kernel
theorem dX6_compareWords_33 : decode cX6_compareWords 33 = .ok (.invokestatic 265, 3) := by decide +kernel
theorem dX6_compareWords_36 : decode cX6_compareWords 36 = .ok (.ireturn, 1) := by decide +kernel
theorem dX6_compareWords_37 : decode cX6_compareWords 37 = .ok (.aload_n 0, 1) := by decide +kernel
theorem dX6_compareWords_38 : decode cX6_compareWords 38 = .ok (.invokevirtual 168, 3) := by decide +kernel
theorem dX6_compareWords_41 : decode cX6_compareWords 41 = .ok (.i2l, 1) := by decide +kernel
theorem dX6_compareWords_42 : decode cX6_compareWords 42 = .ok (.aload_n 1, 1) := by decide +kernel
theorem dX6_compareWords_43 : decode cX6_compareWords 43 = .ok (.invokevirtual 168, 3) := by decide +kernel
theorem dX6_compareWords_46 : decode cX6_compareWords 46 = .ok (.i2l, 1) := by decide +kernel
theorem dX6_compareWords_47 : decode cX6_compareWords 47 = .ok (.iconst 0, 1) := by decide +kernel
theorem dX6_compareWords_48 : decode cX6_compareWords 48 = .ok (.invokestatic 265, 3) := by decide +kernel
theorem dX6_compareWords_51 : decode cX6_compareWords 51 = .ok (.ireturn, 1) := by decide +kernel
theorem dX6_answer_0 : decode cX6_answer 0 = .ok (.iload_n 0, 1) := by decide +kernel
theorem dX6_answer_1 : decode cX6_answer 1 = .ok (.lookupswitch 63 #[(99, 49), (101, 35), (117, 56)], 35) := by decide +kernel
theorem dX6_answer_36 : decode cX6_answer 36 = .ok (.aload_n 1, 1) := by decide +kernel
theorem dX6_answer_37 : decode cX6_answer 37 = .ok (.aload_n 2, 1) := by decide +kernel
theorem dX6_answer_38 : decode cX6_answer 38 = .ok (.invokestatic 243, 3) := by decide +kernel
theorem dX6_answer_41 : decode cX6_answer 41 = .ok (.ifCond .eq 7, 3) := by decide +kernel
theorem dX6_answer_44 : decode cX6_answer 44 = .ok (.iconst 1, 1) := by decide +kernel
theorem dX6_answer_45 : decode cX6_answer 45 = .ok (.goto 4, 3) := by decide +kernel
theorem dX6_answer_48 : decode cX6_answer 48 = .ok (.iconst 0, 1) := by decide +kernel
theorem dX6_answer_49 : decode cX6_answer 49 = .ok (.ireturn, 1) := by decide +kernel
theorem dX6_answer_50 : decode cX6_answer 50 = .ok (.aload_n 1, 1) := by decide +kernel
theorem dX6_answer_51 : decode cX6_answer 51 = .ok (.aload_n 2, 1) := by decide +kernel
theorem dX6_answer_52 : decode cX6_answer 52 = .ok (.iconst 0, 1) := by decide +kernel
theorem dX6_answer_53 : decode cX6_answer 53 = .ok (.invokestatic 140, 3) := by decide +kernel
theorem dX6_answer_56 : decode cX6_answer 56 = .ok (.ireturn, 1) := by decide +kernel
theorem dX6_answer_57 : decode cX6_answer 57 = .ok (.aload_n 1, 1) := by decide +kernel
theorem dX6_answer_58 : decode cX6_answer 58 = .ok (.aload_n 2, 1) := by decide +kernel
theorem dX6_answer_59 : decode cX6_answer 59 = .ok (.iconst 1, 1) := by decide +kernel
theorem dX6_answer_60 : decode cX6_answer 60 = .ok (.invokestatic 140, 3) := by decide +kernel
theorem dX6_answer_63 : decode cX6_answer 63 = .ok (.ireturn, 1) := by decide +kernel
theorem dX6_answer_64 : decode cX6_answer 64 = .ok (.aload_n 1, 1) := by decide +kernel
theorem dX6_answer_65 : decode cX6_answer 65 = .ok (.aload_n 2, 1) := by decide +kernel
theorem dX6_answer_66 : decode cX6_answer 66 = .ok (.invokestatic 269, 3) := by decide +kernel
theorem dX6_answer_69 : decode cX6_answer 69 = .ok (.ireturn, 1) := by decide +kernel
theorem dX7_init_0 : decode cX7_init 0 = .ok (.aload_n 0, 1) := by decide +kernel
theorem dX7_init_1 : decode cX7_init 1 = .ok (.invokespecial 1, 3) := by decide +kernel
theorem dX7_init_4 : decode cX7_init 4 = .ok (.aload_n 0, 1) := by decide +kernel
theorem dX7_init_5 : decode cX7_init 5 = .ok (.sipush 512, 3) := by decide +kernel
theorem dX7_init_8 : decode cX7_init 8 = .ok (.newarray .long, 2) := by decide +kernel
theorem dX7_init_10 : decode cX7_init 10 = .ok (.putfield 7, 3) := by decide +kernel
theorem dX7_init_13 : decode cX7_init 13 = .ok (.aload_n 0, 1) := by decide +kernel
theorem dX7_init_14 : decode cX7_init 14 = .ok (.bipush 16, 2) := by decide +kernel
theorem dX7_init_16 : decode cX7_init 16 = .ok (.newarray .int, 2) := by decide +kernel
theorem dX7_init_18 : decode cX7_init 18 = .ok (.putfield 13, 3) := by decide +kernel
theorem dX7_init_21 : decode cX7_init 21 = .ok (.aload_n 0, 1) := by decide +kernel
theorem dX7_init_22 : decode cX7_init 22 = .ok (.bipush 12, 2) := by decide +kernel
theorem dX7_init_24 : decode cX7_init 24 = .ok (.newarray .int, 2) := by decide +kernel
theorem dX7_init_26 : decode cX7_init 26 = .ok (.putfield 17, 3) := by decide +kernel
theorem dX7_init_29 : decode cX7_init 29 = .ok (.aload_n 0, 1) := by decide +kernel
theorem dX7_init_30 : decode cX7_init 30 = .ok (.bipush 12, 2) := by decide +kernel
theorem dX7_init_32 : decode cX7_init 32 = .ok (.newarray .int, 2) := by decide +kernel
theorem dX7_init_34 : decode cX7_init 34 = .ok (.putfield 20, 3) := by decide +kernel
theorem dX7_init_37 : decode cX7_init 37 = .ok (.aload_n 0, 1) := by decide +kernel
theorem dX7_init_38 : decode cX7_init 38 = .ok (.bipush 12, 2) := by decide +kernel
theorem dX7_init_40 : decode cX7_init 40 = .ok (.newarray .int, 2) := by decide +kernel
theorem dX7_init_42 : decode cX7_init 42 = .ok (.putfield 23, 3) := by decide +kernel
theorem dX7_init_45 : decode cX7_init 45 = .ok (.aload_n 0, 1) := by decide +kernel
theorem dX7_init_46 : decode cX7_init 46 = .ok (.bipush 12, 2) := by decide +kernel
theorem dX7_init_48 : decode cX7_init 48 = .ok (.newarray .int, 2) := by decide +kernel
theorem dX7_init_50 : decode cX7_init 50 = .ok (.putfield 26, 3) := by decide +kernel
theorem dX7_init_53 : decode cX7_init 53 = .ok (.return_, 1) := by decide +kernel
theorem dX7_thrown_0 : decode cX7_thrown 0 = .ok (.aload_n 0, 1) := by decide +kernel
theorem dX7_thrown_1 : decode cX7_thrown 1 = .ok (.getfield 29, 3) := by decide +kernel
theorem dX7_thrown_4 : decode cX7_thrown 4 = .ok (.ireturn, 1) := by decide +kernel
theorem dX7_fails_0 : decode cX7_fails 0 = .ok (.aload_n 0, 1) := by decide +kernel
theorem dX7_fails_1 : decode cX7_fails 1 = .ok (.iload_n 1, 1) := by decide +kernel
theorem dX7_fails_2 : decode cX7_fails 2 = .ok (.putfield 29, 3) := by decide +kernel
theorem dX7_fails_5 : decode cX7_fails 5 = .ok (.iload_n 1, 1) := by decide +kernel
theorem dX7_fails_6 : decode cX7_fails 6 = .ok (.ifCond .le 7, 3) := by decide +kernel
theorem dX7_fails_9 : decode cX7_fails 9 = .ok (.iconst 1, 1) := by decide +kernel
theorem dX7_fails_10 : decode cX7_fails 10 = .ok (.goto 4, 3) := by decide +kernel
theorem dX7_fails_13 : decode cX7_fails 13 = .ok (.iconst 0, 1) := by decide +kernel
theorem dX7_fails_14 : decode cX7_fails 14 = .ok (.ireturn, 1) := by decide +kernel
theorem dX7_in_0 : decode cX7_in 0 = .ok (.lload_n 0, 1) := by decide +kernel
theorem dX7_in_1 : decode cX7_in 1 = .ok (.lload_n 2, 1) := by decide +kernel
theorem dX7_in_2 : decode cX7_in 2 = .ok (.lcmp, 1) := by decide +kernel
theorem dX7_in_3 : decode cX7_in 3 = .ok (.ifCond .lt 14, 3) := by decide +kernel
theorem dX7_in_6 : decode cX7_in 6 = .ok (.lload_n 0, 1) := by decide +kernel
theorem dX7_in_7 : decode cX7_in 7 = .ok (.lload 4, 2) := by decide +kernel
theorem dX7_in_9 : decode cX7_in 9 = .ok (.lcmp, 1) := by decide +kernel
theorem dX7_in_10 : decode cX7_in 10 = .ok (.ifCond .gt 7, 3) := by decide +kernel
theorem dX7_in_13 : decode cX7_in 13 = .ok (.iconst 1, 1) := by decide +kernel
theorem dX7_in_14 : decode cX7_in 14 = .ok (.goto 4, 3) := by decide +kernel
theorem dX7_in_17 : decode cX7_in 17 = .ok (.iconst 0, 1) := by decide +kernel
theorem dX7_in_18 : decode cX7_in 18 = .ok (.ireturn, 1) := by decide +kernel
theorem dX7_kindOf_0 : decode cX7_kindOf 0 = .ok (.iload_n 0, 1) := by decide +kernel
theorem dX7_kindOf_1 : decode cX7_kindOf 1 = .ok (.bipush 98, 2) := by decide +kernel
theorem dX7_kindOf_3 : decode cX7_kindOf 3 = .ok (.if_icmp .ne 7, 3) := by decide +kernel
theorem dX7_kindOf_6 : decode cX7_kindOf 6 = .ok (.iconst 0, 1) := by decide +kernel
theorem dX7_kindOf_7 : decode cX7_kindOf 7 = .ok (.goto 34, 3) := by decide +kernel
theorem dX7_kindOf_10 : decode cX7_kindOf 10 = .ok (.iload_n 0, 1) := by decide +kernel
theorem dX7_kindOf_11 : decode cX7_kindOf 11 = .ok (.bipush 115, 2) := by decide +kernel
theorem dX7_kindOf_13 : decode cX7_kindOf 13 = .ok (.if_icmp .ne 7, 3) := by decide +kernel
theorem dX7_kindOf_16 : decode cX7_kindOf 16 = .ok (.iconst 1, 1) := by decide +kernel
theorem dX7_kindOf_17 : decode cX7_kindOf 17 = .ok (.goto 24, 3) := by decide +kernel
theorem dX7_kindOf_20 : decode cX7_kindOf 20 = .ok (.iload_n 0, 1) := by decide +kernel
theorem dX7_kindOf_21 : decode cX7_kindOf 21 = .ok (.bipush 105, 2) := by decide +kernel
theorem dX7_kindOf_23 : decode cX7_kindOf 23 = .ok (.if_icmp .ne 7, 3) := by decide +kernel
theorem dX7_kindOf_26 : decode cX7_kindOf 26 = .ok (.iconst 2, 1) := by decide +kernel
theorem dX7_kindOf_27 : decode cX7_kindOf 27 = .ok (.goto 14, 3) := by decide +kernel
theorem dX7_kindOf_30 : decode cX7_kindOf 30 = .ok (.iload_n 0, 1) := by decide +kernel
end
section
theorem dX7_kindOf_31 : decode cX7_kindOf 31 = .ok (.bipush 108, 2) := by decide +kernel
theorem dX7_kindOf_33 : decode cX7_kindOf 33 = .ok (.if_icmp .ne 7, 3) := by decide +kernel
theorem dX7_kindOf_36 : decode cX7_kindOf 36 = .ok (.iconst 3, 1) := by decide +kernel
theorem dX7_kindOf_37 : decode cX7_kindOf 37 = .ok (.goto 4, 3) := by decide +kernel
theorem dX7_kindOf_40 : decode cX7_kindOf 40 = .ok (.iconst (-1), 1) := by decide +kernel
theorem dX7_kindOf_41 : decode cX7_kindOf 41 = .ok (.ireturn, 1) := by decide +kernel
theorem dX7_isKind_0 : decode cX7_isKind 0 = .ok (.iload_n 0, 1) := by decide +kernel
theorem dX7_isKind_1 : decode cX7_isKind 1 = .ok (.invokestatic 33, 3) := by decide +kernel
theorem dX7_isKind_4 : decode cX7_isKind 4 = .ok (.ifCond .lt 7, 3) := by decide +kernel
theorem dX7_isKind_7 : decode cX7_isKind 7 = .ok (.iconst 1, 1) := by decide +kernel
theorem dX7_isKind_8 : decode cX7_isKind 8 = .ok (.goto 4, 3) := by decide +kernel
theorem dX7_isKind_11 : decode cX7_isKind 11 = .ok (.iconst 0, 1) := by decide +kernel
theorem dX7_isKind_12 : decode cX7_isKind 12 = .ok (.ireturn, 1) := by decide +kernel
theorem dX7_isOrder_0 : decode cX7_isOrder 0 = .ok (.iload_n 0, 1) := by decide +kernel
theorem dX7_isOrder_1 : decode cX7_isOrder 1 = .ok (.bipush 115, 2) := by decide +kernel
theorem dX7_isOrder_3 : decode cX7_isOrder 3 = .ok (.if_icmp .eq 9, 3) := by decide +kernel
theorem dX7_isOrder_6 : decode cX7_isOrder 6 = .ok (.iload_n 0, 1) := by decide +kernel
theorem dX7_isOrder_7 : decode cX7_isOrder 7 = .ok (.bipush 117, 2) := by decide +kernel
theorem dX7_isOrder_9 : decode cX7_isOrder 9 = .ok (.if_icmp .ne 7, 3) := by decide +kernel
theorem dX7_isOrder_12 : decode cX7_isOrder 12 = .ok (.iconst 1, 1) := by decide +kernel
theorem dX7_isOrder_13 : decode cX7_isOrder 13 = .ok (.goto 4, 3) := by decide +kernel
theorem dX7_isOrder_16 : decode cX7_isOrder 16 = .ok (.iconst 0, 1) := by decide +kernel
theorem dX7_isOrder_17 : decode cX7_isOrder 17 = .ok (.ireturn, 1) := by decide +kernel
theorem dX7_isAsk_0 : decode cX7_isAsk 0 = .ok (.iload_n 0, 1) := by decide +kernel
theorem dX7_isAsk_1 : decode cX7_isAsk 1 = .ok (.bipush 101, 2) := by decide +kernel
theorem dX7_isAsk_3 : decode cX7_isAsk 3 = .ok (.if_icmp .eq 21, 3) := by decide +kernel
theorem dX7_isAsk_6 : decode cX7_isAsk 6 = .ok (.iload_n 0, 1) := by decide +kernel
theorem dX7_isAsk_7 : decode cX7_isAsk 7 = .ok (.bipush 99, 2) := by decide +kernel
theorem dX7_isAsk_9 : decode cX7_isAsk 9 = .ok (.if_icmp .eq 15, 3) := by decide +kernel
theorem dX7_isAsk_12 : decode cX7_isAsk 12 = .ok (.iload_n 0, 1) := by decide +kernel
theorem dX7_isAsk_13 : decode cX7_isAsk 13 = .ok (.bipush 117, 2) := by decide +kernel
theorem dX7_isAsk_15 : decode cX7_isAsk 15 = .ok (.if_icmp .eq 9, 3) := by decide +kernel
theorem dX7_isAsk_18 : decode cX7_isAsk 18 = .ok (.iload_n 0, 1) := by decide +kernel
theorem dX7_isAsk_19 : decode cX7_isAsk 19 = .ok (.bipush 109, 2) := by decide +kernel
theorem dX7_isAsk_21 : decode cX7_isAsk 21 = .ok (.if_icmp .ne 7, 3) := by decide +kernel
theorem dX7_isAsk_24 : decode cX7_isAsk 24 = .ok (.iconst 1, 1) := by decide +kernel
theorem dX7_isAsk_25 : decode cX7_isAsk 25 = .ok (.goto 4, 3) := by decide +kernel
theorem dX7_isAsk_28 : decode cX7_isAsk 28 = .ok (.iconst 0, 1) := by decide +kernel
theorem dX7_isAsk_29 : decode cX7_isAsk 29 = .ok (.ireturn, 1) := by decide +kernel
theorem dX7_isRow_0 : decode cX7_isRow 0 = .ok (.iload_n 0, 1) := by decide +kernel
theorem dX7_isRow_1 : decode cX7_isRow 1 = .ok (.i2l, 1) := by decide +kernel
theorem dX7_isRow_2 : decode cX7_isRow 2 = .ok (.lconst 0, 1) := by decide +kernel
theorem dX7_isRow_3 : decode cX7_isRow 3 = .ok (.ldc2_w 37, 3) := by decide +kernel
theorem dX7_isRow_6 : decode cX7_isRow 6 = .ok (.invokestatic 39, 3) := by decide +kernel
theorem dX7_isRow_9 : decode cX7_isRow 9 = .ok (.ireturn, 1) := by decide +kernel
theorem dX7_isSpan_0 : decode cX7_isSpan 0 = .ok (.iload_n 0, 1) := by decide +kernel
theorem dX7_isSpan_1 : decode cX7_isSpan 1 = .ok (.i2l, 1) := by decide +kernel
theorem dX7_isSpan_2 : decode cX7_isSpan 2 = .ok (.lconst 0, 1) := by decide +kernel
theorem dX7_isSpan_3 : decode cX7_isSpan 3 = .ok (.ldc2_w 43, 3) := by decide +kernel
theorem dX7_isSpan_6 : decode cX7_isSpan 6 = .ok (.invokestatic 39, 3) := by decide +kernel
theorem dX7_isSpan_9 : decode cX7_isSpan 9 = .ok (.ireturn, 1) := by decide +kernel
theorem dX7_isOf_0 : decode cX7_isOf 0 = .ok (.iload_n 0, 1) := by decide +kernel
theorem dX7_isOf_1 : decode cX7_isOf 1 = .ok (.iconst 3, 1) := by decide +kernel
theorem dX7_isOf_2 : decode cX7_isOf 2 = .ok (.if_icmp .eq 52, 3) := by decide +kernel
theorem dX7_isOf_5 : decode cX7_isOf 5 = .ok (.iload_n 0, 1) := by decide +kernel
theorem dX7_isOf_6 : decode cX7_isOf 6 = .ok (.iconst 2, 1) := by decide +kernel
theorem dX7_isOf_7 : decode cX7_isOf 7 = .ok (.if_icmp .ne 16, 3) := by decide +kernel
theorem dX7_isOf_10 : decode cX7_isOf 10 = .ok (.lload_n 1, 1) := by decide +kernel
theorem dX7_isOf_11 : decode cX7_isOf 11 = .ok (.ldc2_w 45, 3) := by decide +kernel
theorem dX7_isOf_14 : decode cX7_isOf 14 = .ok (.ldc2_w 47, 3) := by decide +kernel
theorem dX7_isOf_17 : decode cX7_isOf 17 = .ok (.invokestatic 39, 3) := by decide +kernel
theorem dX7_isOf_20 : decode cX7_isOf 20 = .ok (.ifCond .ne 34, 3) := by decide +kernel
theorem dX7_isOf_23 : decode cX7_isOf 23 = .ok (.iload_n 0, 1) := by decide +kernel
theorem dX7_isOf_24 : decode cX7_isOf 24 = .ok (.iconst 1, 1) := by decide +kernel
theorem dX7_isOf_25 : decode cX7_isOf 25 = .ok (.if_icmp .ne 16, 3) := by decide +kernel
theorem dX7_isOf_28 : decode cX7_isOf 28 = .ok (.lload_n 1, 1) := by decide +kernel
theorem dX7_isOf_29 : decode cX7_isOf 29 = .ok (.ldc2_w 49, 3) := by decide +kernel
theorem dX7_isOf_32 : decode cX7_isOf 32 = .ok (.ldc2_w 51, 3) := by decide +kernel
theorem dX7_isOf_35 : decode cX7_isOf 35 = .ok (.invokestatic 39, 3) := by decide +kernel
theorem dX7_isOf_38 : decode cX7_isOf 38 = .ok (.ifCond .ne 16, 3) := by decide +kernel
theorem dX7_isOf_41 : decode cX7_isOf 41 = .ok (.lload_n 1, 1) := by decide +kernel
theorem dX7_isOf_42 : decode cX7_isOf 42 = .ok (.ldc2_w 53, 3) := by decide +kernel
theorem dX7_isOf_45 : decode cX7_isOf 45 = .ok (.ldc2_w 55, 3) := by decide +kernel
theorem dX7_isOf_48 : decode cX7_isOf 48 = .ok (.invokestatic 39, 3) := by decide +kernel
theorem dX7_isOf_51 : decode cX7_isOf 51 = .ok (.ifCond .eq 7, 3) := by decide +kernel
theorem dX7_isOf_54 : decode cX7_isOf 54 = .ok (.iconst 1, 1) := by decide +kernel
theorem dX7_isOf_55 : decode cX7_isOf 55 = .ok (.goto 4, 3) := by decide +kernel
theorem dX7_isOf_58 : decode cX7_isOf 58 = .ok (.iconst 0, 1) := by decide +kernel
theorem dX7_isOf_59 : decode cX7_isOf 59 = .ok (.ireturn, 1) := by decide +kernel
theorem dX7_size_0 : decode cX7_size 0 = .ok (.aload_n 0, 1) := by decide +kernel
theorem dX7_size_1 : decode cX7_size 1 = .ok (.getfield 13, 3) := by decide +kernel
theorem dX7_size_4 : decode cX7_size 4 = .ok (.iconst 4, 1) := by decide +kernel
theorem dX7_size_5 : decode cX7_size 5 = .ok (.iload_n 1, 1) := by decide +kernel
theorem dX7_size_6 : decode cX7_size 6 = .ok (.invokestatic 33, 3) := by decide +kernel
theorem dX7_size_9 : decode cX7_size 9 = .ok (.imul, 1) := by decide +kernel
theorem dX7_size_10 : decode cX7_size 10 = .ok (.iload_n 2, 1) := by decide +kernel
theorem dX7_size_11 : decode cX7_size 11 = .ok (.iadd, 1) := by decide +kernel
theorem dX7_size_12 : decode cX7_size 12 = .ok (.iaload, 1) := by decide +kernel
theorem dX7_size_13 : decode cX7_size 13 = .ok (.ireturn, 1) := by decide +kernel
theorem dX7_at_0 : decode cX7_at 0 = .ok (.bipush 32, 2) := by decide +kernel
theorem dX7_at_2 : decode cX7_at 2 = .ok (.iconst 4, 1) := by decide +kernel
theorem dX7_at_3 : decode cX7_at 3 = .ok (.iload_n 1, 1) := by decide +kernel
theorem dX7_at_4 : decode cX7_at 4 = .ok (.invokestatic 33, 3) := by decide +kernel
theorem dX7_at_7 : decode cX7_at 7 = .ok (.imul, 1) := by decide +kernel
theorem dX7_at_8 : decode cX7_at 8 = .ok (.iload_n 2, 1) := by decide +kernel
theorem dX7_at_9 : decode cX7_at 9 = .ok (.iadd, 1) := by decide +kernel
theorem dX7_at_10 : decode cX7_at 10 = .ok (.imul, 1) := by decide +kernel
theorem dX7_at_11 : decode cX7_at 11 = .ok (.iload_n 3, 1) := by decide +kernel
theorem dX7_at_12 : decode cX7_at 12 = .ok (.iadd, 1) := by decide +kernel
theorem dX7_at_13 : decode cX7_at 13 = .ok (.ireturn, 1) := by decide +kernel
theorem dX7_resize_0 : decode cX7_resize 0 = .ok (.aload_n 0, 1) := by decide +kernel
theorem dX7_resize_1 : decode cX7_resize 1 = .ok (.getfield 13, 3) := by decide +kernel
theorem dX7_resize_4 : decode cX7_resize 4 = .ok (.iconst 4, 1) := by decide +kernel
theorem dX7_resize_5 : decode cX7_resize 5 = .ok (.iload_n 1, 1) := by decide +kernel
theorem dX7_resize_6 : decode cX7_resize 6 = .ok (.invokestatic 33, 3) := by decide +kernel
theorem dX7_resize_9 : decode cX7_resize 9 = .ok (.imul, 1) := by decide +kernel
theorem dX7_resize_10 : decode cX7_resize 10 = .ok (.iload_n 2, 1) := by decide +kernel
theorem dX7_resize_11 : decode cX7_resize 11 = .ok (.iadd, 1) := by decide +kernel
theorem dX7_resize_12 : decode cX7_resize 12 = .ok (.iload_n 3, 1) := by decide +kernel
theorem dX7_resize_13 : decode cX7_resize 13 = .ok (.iastore, 1) := by decide +kernel
theorem dX7_resize_14 : decode cX7_resize 14 = .ok (.return_, 1) := by decide +kernel
theorem dX7_noRow_0 : decode cX7_noRow 0 = .ok (.iload_n 1, 1) := by decide +kernel
theorem dX7_noRow_1 : decode cX7_noRow 1 = .ok (.invokestatic 57, 3) := by decide +kernel
theorem dX7_noRow_4 : decode cX7_noRow 4 = .ok (.ifCond .ne 7, 3) := by decide +kernel
theorem dX7_noRow_7 : decode cX7_noRow 7 = .ok (.iconst 1, 1) := by decide +kernel
theorem dX7_noRow_8 : decode cX7_noRow 8 = .ok (.goto 15, 3) := by decide +kernel
theorem dX7_noRow_11 : decode cX7_noRow 11 = .ok (.iload_n 2, 1) := by decide +kernel
theorem dX7_noRow_12 : decode cX7_noRow 12 = .ok (.invokestatic 61, 3) := by decide +kernel
theorem dX7_noRow_15 : decode cX7_noRow 15 = .ok (.ifCond .eq 7, 3) := by decide +kernel
theorem dX7_noRow_18 : decode cX7_noRow 18 = .ok (.iconst 0, 1) := by decide +kernel
theorem dX7_noRow_19 : decode cX7_noRow 19 = .ok (.goto 4, 3) := by decide +kernel
theorem dX7_noRow_22 : decode cX7_noRow 22 = .ok (.iconst 2, 1) := by decide +kernel
theorem dX7_noRow_23 : decode cX7_noRow 23 = .ok (.ireturn, 1) := by decide +kernel
theorem dX7_append_0 : decode cX7_append 0 = .ok (.aload_n 0, 1) := by decide +kernel
theorem dX7_append_1 : decode cX7_append 1 = .ok (.iload_n 1, 1) := by decide +kernel
theorem dX7_append_2 : decode cX7_append 2 = .ok (.invokestatic 57, 3) := by decide +kernel
theorem dX7_append_5 : decode cX7_append 5 = .ok (.ifCond .eq 14, 3) := by decide +kernel
theorem dX7_append_8 : decode cX7_append 8 = .ok (.iload_n 1, 1) := by decide +kernel
theorem dX7_append_9 : decode cX7_append 9 = .ok (.invokestatic 33, 3) := by decide +kernel
theorem dX7_append_12 : decode cX7_append 12 = .ok (.lload_n 3, 1) := by decide +kernel
theorem dX7_append_13 : decode cX7_append 13 = .ok (.invokestatic 65, 3) := by decide +kernel
theorem dX7_append_16 : decode cX7_append 16 = .ok (.ifCond .ne 7, 3) := by decide +kernel
theorem dX7_append_19 : decode cX7_append 19 = .ok (.iconst 1, 1) := by decide +kernel
theorem dX7_append_20 : decode cX7_append 20 = .ok (.goto 30, 3) := by decide +kernel
theorem dX7_append_23 : decode cX7_append 23 = .ok (.iload_n 2, 1) := by decide +kernel
theorem dX7_append_24 : decode cX7_append 24 = .ok (.invokestatic 61, 3) := by decide +kernel
theorem dX7_append_27 : decode cX7_append 27 = .ok (.ifCond .ne 7, 3) := by decide +kernel
theorem dX7_append_30 : decode cX7_append 30 = .ok (.iconst 2, 1) := by decide +kernel
theorem dX7_append_31 : decode cX7_append 31 = .ok (.goto 19, 3) := by decide +kernel
theorem dX7_append_34 : decode cX7_append 34 = .ok (.aload_n 0, 1) := by decide +kernel
theorem dX7_append_35 : decode cX7_append 35 = .ok (.iload_n 1, 1) := by decide +kernel
theorem dX7_append_36 : decode cX7_append 36 = .ok (.iload_n 2, 1) := by decide +kernel
theorem dX7_append_37 : decode cX7_append 37 = .ok (.invokevirtual 69, 3) := by decide +kernel
theorem dX7_append_40 : decode cX7_append 40 = .ok (.bipush 32, 2) := by decide +kernel
theorem dX7_append_42 : decode cX7_append 42 = .ok (.if_icmp .ne 7, 3) := by decide +kernel
theorem dX7_append_45 : decode cX7_append 45 = .ok (.iconst 3, 1) := by decide +kernel
theorem dX7_append_46 : decode cX7_append 46 = .ok (.goto 4, 3) := by decide +kernel
theorem dX7_append_49 : decode cX7_append 49 = .ok (.iconst 0, 1) := by decide +kernel
theorem dX7_append_50 : decode cX7_append 50 = .ok (.invokevirtual 73, 3) := by decide +kernel
theorem dX7_append_53 : decode cX7_append 53 = .ok (.ifCond .eq 5, 3) := by decide +kernel
theorem dX7_append_56 : decode cX7_append 56 = .ok (.iconst 0, 1) := by decide +kernel
theorem dX7_append_57 : decode cX7_append 57 = .ok (.ireturn, 1) := by decide +kernel
theorem dX7_append_58 : decode cX7_append 58 = .ok (.aload_n 0, 1) := by decide +kernel
theorem dX7_append_59 : decode cX7_append 59 = .ok (.getfield 7, 3) := by decide +kernel
theorem dX7_append_62 : decode cX7_append 62 = .ok (.aload_n 0, 1) := by decide +kernel
theorem dX7_append_63 : decode cX7_append 63 = .ok (.iload_n 1, 1) := by decide +kernel
theorem dX7_append_64 : decode cX7_append 64 = .ok (.iload_n 2, 1) := by decide +kernel
theorem dX7_append_65 : decode cX7_append 65 = .ok (.aload_n 0, 1) := by decide +kernel
theorem dX7_append_66 : decode cX7_append 66 = .ok (.iload_n 1, 1) := by decide +kernel
theorem dX7_append_67 : decode cX7_append 67 = .ok (.iload_n 2, 1) := by decide +kernel
theorem dX7_append_68 : decode cX7_append 68 = .ok (.invokevirtual 69, 3) := by decide +kernel
theorem dX7_append_71 : decode cX7_append 71 = .ok (.invokevirtual 76, 3) := by decide +kernel
theorem dX7_append_74 : decode cX7_append 74 = .ok (.lload_n 3, 1) := by decide +kernel
theorem dX7_append_75 : decode cX7_append 75 = .ok (.lastore, 1) := by decide +kernel
theorem dX7_append_76 : decode cX7_append 76 = .ok (.aload_n 0, 1) := by decide +kernel
theorem dX7_append_77 : decode cX7_append 77 = .ok (.iload_n 1, 1) := by decide +kernel
theorem dX7_append_78 : decode cX7_append 78 = .ok (.iload_n 2, 1) := by decide +kernel
theorem dX7_append_79 : decode cX7_append 79 = .ok (.aload_n 0, 1) := by decide +kernel
theorem dX7_append_80 : decode cX7_append 80 = .ok (.iload_n 1, 1) := by decide +kernel
theorem dX7_append_81 : decode cX7_append 81 = .ok (.iload_n 2, 1) := by decide +kernel
theorem dX7_append_82 : decode cX7_append 82 = .ok (.invokevirtual 69, 3) := by decide +kernel
theorem dX7_append_85 : decode cX7_append 85 = .ok (.iconst 1, 1) := by decide +kernel
theorem dX7_append_86 : decode cX7_append 86 = .ok (.iadd, 1) := by decide +kernel
theorem dX7_append_87 : decode cX7_append 87 = .ok (.invokevirtual 80, 3) := by decide +kernel
theorem dX7_append_90 : decode cX7_append 90 = .ok (.aload_n 0, 1) := by decide +kernel
theorem dX7_append_91 : decode cX7_append 91 = .ok (.iload_n 1, 1) := by decide +kernel
theorem dX7_append_92 : decode cX7_append 92 = .ok (.iload_n 2, 1) := by decide +kernel
theorem dX7_append_93 : decode cX7_append 93 = .ok (.invokevirtual 69, 3) := by decide +kernel
theorem dX7_append_96 : decode cX7_append 96 = .ok (.ireturn, 1) := by decide +kernel
theorem dX7_set_0 : decode cX7_set 0 = .ok (.aload_n 0, 1) := by decide +kernel
theorem dX7_set_1 : decode cX7_set 1 = .ok (.iload_n 1, 1) := by decide +kernel
theorem dX7_set_2 : decode cX7_set 2 = .ok (.invokestatic 57, 3) := by decide +kernel
theorem dX7_set_5 : decode cX7_set 5 = .ok (.ifCond .eq 15, 3) := by decide +kernel
theorem dX7_set_8 : decode cX7_set 8 = .ok (.iload_n 1, 1) := by decide +kernel
theorem dX7_set_9 : decode cX7_set 9 = .ok (.invokestatic 33, 3) := by decide +kernel
theorem dX7_set_12 : decode cX7_set 12 = .ok (.lload 4, 2) := by decide +kernel
theorem dX7_set_14 : decode cX7_set 14 = .ok (.invokestatic 65, 3) := by decide +kernel
theorem dX7_set_17 : decode cX7_set 17 = .ok (.ifCond .ne 7, 3) := by decide +kernel
theorem dX7_set_20 : decode cX7_set 20 = .ok (.iconst 1, 1) := by decide +kernel
theorem dX7_set_21 : decode cX7_set 21 = .ok (.goto 33, 3) := by decide +kernel
theorem dX7_set_24 : decode cX7_set 24 = .ok (.iload_n 2, 1) := by decide +kernel
theorem dX7_set_25 : decode cX7_set 25 = .ok (.invokestatic 61, 3) := by decide +kernel
theorem dX7_set_28 : decode cX7_set 28 = .ok (.ifCond .eq 21, 3) := by decide +kernel
theorem dX7_set_31 : decode cX7_set 31 = .ok (.iload_n 3, 1) := by decide +kernel
theorem dX7_set_32 : decode cX7_set 32 = .ok (.i2l, 1) := by decide +kernel
theorem dX7_set_33 : decode cX7_set 33 = .ok (.lconst 0, 1) := by decide +kernel
theorem dX7_set_34 : decode cX7_set 34 = .ok (.aload_n 0, 1) := by decide +kernel
theorem dX7_set_35 : decode cX7_set 35 = .ok (.iload_n 1, 1) := by decide +kernel
theorem dX7_set_36 : decode cX7_set 36 = .ok (.iload_n 2, 1) := by decide +kernel
theorem dX7_set_37 : decode cX7_set 37 = .ok (.invokevirtual 69, 3) := by decide +kernel
theorem dX7_set_40 : decode cX7_set 40 = .ok (.iconst 1, 1) := by decide +kernel
theorem dX7_set_41 : decode cX7_set 41 = .ok (.isub, 1) := by decide +kernel
theorem dX7_set_42 : decode cX7_set 42 = .ok (.i2l, 1) := by decide +kernel
theorem dX7_set_43 : decode cX7_set 43 = .ok (.invokestatic 39, 3) := by decide +kernel
theorem dX7_set_46 : decode cX7_set 46 = .ok (.ifCond .ne 7, 3) := by decide +kernel
theorem dX7_set_49 : decode cX7_set 49 = .ok (.iconst 2, 1) := by decide +kernel
theorem dX7_set_50 : decode cX7_set 50 = .ok (.goto 4, 3) := by decide +kernel
theorem dX7_set_53 : decode cX7_set 53 = .ok (.iconst 0, 1) := by decide +kernel
theorem dX7_set_54 : decode cX7_set 54 = .ok (.invokevirtual 73, 3) := by decide +kernel
theorem dX7_set_57 : decode cX7_set 57 = .ok (.ifCond .eq 5, 3) := by decide +kernel
theorem dX7_set_60 : decode cX7_set 60 = .ok (.lconst 0, 1) := by decide +kernel
theorem dX7_set_61 : decode cX7_set 61 = .ok (.lreturn, 1) := by decide +kernel
theorem dX7_set_62 : decode cX7_set 62 = .ok (.aload_n 0, 1) := by decide +kernel
theorem dX7_set_63 : decode cX7_set 63 = .ok (.getfield 7, 3) := by decide +kernel
theorem dX7_set_66 : decode cX7_set 66 = .ok (.aload_n 0, 1) := by decide +kernel
theorem dX7_set_67 : decode cX7_set 67 = .ok (.iload_n 1, 1) := by decide +kernel
theorem dX7_set_68 : decode cX7_set 68 = .ok (.iload_n 2, 1) := by decide +kernel
theorem dX7_set_69 : decode cX7_set 69 = .ok (.iload_n 3, 1) := by decide +kernel
theorem dX7_set_70 : decode cX7_set 70 = .ok (.invokevirtual 76, 3) := by decide +kernel
theorem dX7_set_73 : decode cX7_set 73 = .ok (.laload, 1) := by decide +kernel
theorem dX7_set_74 : decode cX7_set 74 = .ok (.lstore 6, 2) := by decide +kernel
theorem dX7_set_76 : decode cX7_set 76 = .ok (.aload_n 0, 1) := by decide +kernel
theorem dX7_set_77 : decode cX7_set 77 = .ok (.getfield 7, 3) := by decide +kernel
theorem dX7_set_80 : decode cX7_set 80 = .ok (.aload_n 0, 1) := by decide +kernel
theorem dX7_set_81 : decode cX7_set 81 = .ok (.iload_n 1, 1) := by decide +kernel
theorem dX7_set_82 : decode cX7_set 82 = .ok (.iload_n 2, 1) := by decide +kernel
theorem dX7_set_83 : decode cX7_set 83 = .ok (.iload_n 3, 1) := by decide +kernel
theorem dX7_set_84 : decode cX7_set 84 = .ok (.invokevirtual 76, 3) := by decide +kernel
theorem dX7_set_87 : decode cX7_set 87 = .ok (.lload 4, 2) := by decide +kernel
theorem dX7_set_89 : decode cX7_set 89 = .ok (.lastore, 1) := by decide +kernel
theorem dX7_set_90 : decode cX7_set 90 = .ok (.lload 6, 2) := by decide +kernel
theorem dX7_set_92 : decode cX7_set 92 = .ok (.lreturn, 1) := by decide +kernel
theorem dX7_number_0 : decode cX7_number 0 = .ok (.aload_n 0, 1) := by decide +kernel
theorem dX7_number_1 : decode cX7_number 1 = .ok (.iload_n 1, 1) := by decide +kernel
theorem dX7_number_2 : decode cX7_number 2 = .ok (.invokestatic 57, 3) := by decide +kernel
theorem dX7_number_5 : decode cX7_number 5 = .ok (.ifCond .ne 7, 3) := by decide +kernel
theorem dX7_number_8 : decode cX7_number 8 = .ok (.iconst 1, 1) := by decide +kernel
theorem dX7_number_9 : decode cX7_number 9 = .ok (.goto 33, 3) := by decide +kernel
theorem dX7_number_12 : decode cX7_number 12 = .ok (.iload_n 2, 1) := by decide +kernel
theorem dX7_number_13 : decode cX7_number 13 = .ok (.invokestatic 61, 3) := by decide +kernel
theorem dX7_number_16 : decode cX7_number 16 = .ok (.ifCond .eq 21, 3) := by decide +kernel
theorem dX7_number_19 : decode cX7_number 19 = .ok (.iload_n 3, 1) := by decide +kernel
theorem dX7_number_20 : decode cX7_number 20 = .ok (.i2l, 1) := by decide +kernel
theorem dX7_number_21 : decode cX7_number 21 = .ok (.lconst 0, 1) := by decide +kernel
theorem dX7_number_22 : decode cX7_number 22 = .ok (.aload_n 0, 1) := by decide +kernel
theorem dX7_number_23 : decode cX7_number 23 = .ok (.iload_n 1, 1) := by decide +kernel
theorem dX7_number_24 : decode cX7_number 24 = .ok (.iload_n 2, 1) := by decide +kernel
theorem dX7_number_25 : decode cX7_number 25 = .ok (.invokevirtual 69, 3) := by decide +kernel
theorem dX7_number_28 : decode cX7_number 28 = .ok (.iconst 1, 1) := by decide +kernel
theorem dX7_number_29 : decode cX7_number 29 = .ok (.isub, 1) := by decide +kernel
theorem dX7_number_30 : decode cX7_number 30 = .ok (.i2l, 1) := by decide +kernel
theorem dX7_number_31 : decode cX7_number 31 = .ok (.invokestatic 39, 3) := by decide +kernel
theorem dX7_number_34 : decode cX7_number 34 = .ok (.ifCond .ne 7, 3) := by decide +kernel
theorem dX7_number_37 : decode cX7_number 37 = .ok (.iconst 2, 1) := by decide +kernel
theorem dX7_number_38 : decode cX7_number 38 = .ok (.goto 4, 3) := by decide +kernel
theorem dX7_number_41 : decode cX7_number 41 = .ok (.iconst 0, 1) := by decide +kernel
theorem dX7_number_42 : decode cX7_number 42 = .ok (.invokevirtual 73, 3) := by decide +kernel
theorem dX7_number_45 : decode cX7_number 45 = .ok (.ifCond .eq 5, 3) := by decide +kernel
theorem dX7_number_48 : decode cX7_number 48 = .ok (.lconst 0, 1) := by decide +kernel
theorem dX7_number_49 : decode cX7_number 49 = .ok (.lreturn, 1) := by decide +kernel
theorem dX7_number_50 : decode cX7_number 50 = .ok (.aload_n 0, 1) := by decide +kernel
theorem dX7_number_51 : decode cX7_number 51 = .ok (.getfield 7, 3) := by decide +kernel
theorem dX7_number_54 : decode cX7_number 54 = .ok (.aload_n 0, 1) := by decide +kernel
theorem dX7_number_55 : decode cX7_number 55 = .ok (.iload_n 1, 1) := by decide +kernel
theorem dX7_number_56 : decode cX7_number 56 = .ok (.iload_n 2, 1) := by decide +kernel
theorem dX7_number_57 : decode cX7_number 57 = .ok (.iload_n 3, 1) := by decide +kernel
theorem dX7_number_58 : decode cX7_number 58 = .ok (.invokevirtual 76, 3) := by decide +kernel
theorem dX7_number_61 : decode cX7_number 61 = .ok (.laload, 1) := by decide +kernel
theorem dX7_number_62 : decode cX7_number 62 = .ok (.lreturn, 1) := by decide +kernel
theorem dX7_length_0 : decode cX7_length 0 = .ok (.aload_n 0, 1) := by decide +kernel
theorem dX7_length_1 : decode cX7_length 1 = .ok (.aload_n 0, 1) := by decide +kernel
theorem dX7_length_2 : decode cX7_length 2 = .ok (.iload_n 1, 1) := by decide +kernel
theorem dX7_length_3 : decode cX7_length 3 = .ok (.iload_n 2, 1) := by decide +kernel
theorem dX7_length_4 : decode cX7_length 4 = .ok (.invokevirtual 84, 3) := by decide +kernel
theorem dX7_length_7 : decode cX7_length 7 = .ok (.invokevirtual 73, 3) := by decide +kernel
theorem dX7_length_10 : decode cX7_length 10 = .ok (.ifCond .eq 7, 3) := by decide +kernel
theorem dX7_length_13 : decode cX7_length 13 = .ok (.iconst 0, 1) := by decide +kernel
theorem dX7_length_14 : decode cX7_length 14 = .ok (.goto 9, 3) := by decide +kernel
theorem dX7_length_17 : decode cX7_length 17 = .ok (.aload_n 0, 1) := by decide +kernel
theorem dX7_length_18 : decode cX7_length 18 = .ok (.iload_n 1, 1) := by decide +kernel
theorem dX7_length_19 : decode cX7_length 19 = .ok (.iload_n 2, 1) := by decide +kernel
theorem dX7_length_20 : decode cX7_length 20 = .ok (.invokevirtual 69, 3) := by decide +kernel
theorem dX7_length_23 : decode cX7_length 23 = .ok (.ireturn, 1) := by decide +kernel
theorem dX7_clear_0 : decode cX7_clear 0 = .ok (.aload_n 0, 1) := by decide +kernel
theorem dX7_clear_1 : decode cX7_clear 1 = .ok (.aload_n 0, 1) := by decide +kernel
theorem dX7_clear_2 : decode cX7_clear 2 = .ok (.iload_n 1, 1) := by decide +kernel
theorem dX7_clear_3 : decode cX7_clear 3 = .ok (.iload_n 2, 1) := by decide +kernel
theorem dX7_clear_4 : decode cX7_clear 4 = .ok (.invokevirtual 84, 3) := by decide +kernel
theorem dX7_clear_7 : decode cX7_clear 7 = .ok (.invokevirtual 73, 3) := by decide +kernel
theorem dX7_clear_10 : decode cX7_clear 10 = .ok (.ifCond .eq 5, 3) := by decide +kernel
theorem dX7_clear_13 : decode cX7_clear 13 = .ok (.iconst 0, 1) := by decide +kernel
theorem dX7_clear_14 : decode cX7_clear 14 = .ok (.ireturn, 1) := by decide +kernel
theorem dX7_clear_15 : decode cX7_clear 15 = .ok (.aload_n 0, 1) := by decide +kernel
theorem dX7_clear_16 : decode cX7_clear 16 = .ok (.iload_n 1, 1) := by decide +kernel
theorem dX7_clear_17 : decode cX7_clear 17 = .ok (.iload_n 2, 1) := by decide +kernel
theorem dX7_clear_18 : decode cX7_clear 18 = .ok (.invokevirtual 69, 3) := by decide +kernel
theorem dX7_clear_21 : decode cX7_clear 21 = .ok (.istore_n 3, 1) := by decide +kernel
theorem dX7_clear_22 : decode cX7_clear 22 = .ok (.aload_n 0, 1) := by decide +kernel
theorem dX7_clear_23 : decode cX7_clear 23 = .ok (.iload_n 1, 1) := by decide +kernel
theorem dX7_clear_24 : decode cX7_clear 24 = .ok (.iload_n 2, 1) := by decide +kernel
theorem dX7_clear_25 : decode cX7_clear 25 = .ok (.iconst 0, 1) := by decide +kernel
theorem dX7_clear_26 : decode cX7_clear 26 = .ok (.invokevirtual 80, 3) := by decide +kernel
theorem dX7_clear_29 : decode cX7_clear 29 = .ok (.iload_n 3, 1) := by decide +kernel
theorem dX7_clear_30 : decode cX7_clear 30 = .ok (.ireturn, 1) := by decide +kernel
theorem dX7_repeat_0 : decode cX7_repeat 0 = .ok (.aload_n 0, 1) := by decide +kernel
theorem dX7_repeat_1 : decode cX7_repeat 1 = .ok (.iload_n 1, 1) := by decide +kernel
theorem dX7_repeat_2 : decode cX7_repeat 2 = .ok (.invokestatic 57, 3) := by decide +kernel
theorem dX7_repeat_5 : decode cX7_repeat 5 = .ok (.ifCond .eq 15, 3) := by decide +kernel
theorem dX7_repeat_8 : decode cX7_repeat 8 = .ok (.iload_n 3, 1) := by decide +kernel
theorem dX7_repeat_9 : decode cX7_repeat 9 = .ok (.i2l, 1) := by decide +kernel
theorem dX7_repeat_10 : decode cX7_repeat 10 = .ok (.lconst 1, 1) := by decide +kernel
theorem dX7_repeat_11 : decode cX7_repeat 11 = .ok (.ldc2_w 87, 3) := by decide +kernel
theorem dX7_repeat_14 : decode cX7_repeat 14 = .ok (.invokestatic 39, 3) := by decide +kernel
theorem dX7_repeat_17 : decode cX7_repeat 17 = .ok (.ifCond .ne 7, 3) := by decide +kernel
theorem dX7_repeat_20 : decode cX7_repeat 20 = .ok (.iconst 1, 1) := by decide +kernel
theorem dX7_repeat_21 : decode cX7_repeat 21 = .ok (.goto 32, 3) := by decide +kernel
theorem dX7_repeat_24 : decode cX7_repeat 24 = .ok (.iload_n 2, 1) := by decide +kernel
theorem dX7_repeat_25 : decode cX7_repeat 25 = .ok (.invokestatic 61, 3) := by decide +kernel
theorem dX7_repeat_28 : decode cX7_repeat 28 = .ok (.ifCond .ne 7, 3) := by decide +kernel
theorem dX7_repeat_31 : decode cX7_repeat 31 = .ok (.iconst 2, 1) := by decide +kernel
theorem dX7_repeat_32 : decode cX7_repeat 32 = .ok (.goto 21, 3) := by decide +kernel
theorem dX7_repeat_35 : decode cX7_repeat 35 = .ok (.aload_n 0, 1) := by decide +kernel
theorem dX7_repeat_36 : decode cX7_repeat 36 = .ok (.iload_n 1, 1) := by decide +kernel
theorem dX7_repeat_37 : decode cX7_repeat 37 = .ok (.iload_n 2, 1) := by decide +kernel
theorem dX7_repeat_38 : decode cX7_repeat 38 = .ok (.invokevirtual 69, 3) := by decide +kernel
theorem dX7_repeat_41 : decode cX7_repeat 41 = .ok (.iload_n 3, 1) := by decide +kernel
theorem dX7_repeat_42 : decode cX7_repeat 42 = .ok (.imul, 1) := by decide +kernel
theorem dX7_repeat_43 : decode cX7_repeat 43 = .ok (.bipush 32, 2) := by decide +kernel
theorem dX7_repeat_45 : decode cX7_repeat 45 = .ok (.if_icmp .le 7, 3) := by decide +kernel
theorem dX7_repeat_48 : decode cX7_repeat 48 = .ok (.iconst 3, 1) := by decide +kernel
theorem dX7_repeat_49 : decode cX7_repeat 49 = .ok (.goto 4, 3) := by decide +kernel
theorem dX7_repeat_52 : decode cX7_repeat 52 = .ok (.iconst 0, 1) := by decide +kernel
theorem dX7_repeat_53 : decode cX7_repeat 53 = .ok (.invokevirtual 73, 3) := by decide +kernel
theorem dX7_repeat_56 : decode cX7_repeat 56 = .ok (.ifCond .eq 5, 3) := by decide +kernel
theorem dX7_repeat_59 : decode cX7_repeat 59 = .ok (.iconst 0, 1) := by decide +kernel
theorem dX7_repeat_60 : decode cX7_repeat 60 = .ok (.ireturn, 1) := by decide +kernel
theorem dX7_repeat_61 : decode cX7_repeat 61 = .ok (.aload_n 0, 1) := by decide +kernel
theorem dX7_repeat_62 : decode cX7_repeat 62 = .ok (.iload_n 1, 1) := by decide +kernel
theorem dX7_repeat_63 : decode cX7_repeat 63 = .ok (.iload_n 2, 1) := by decide +kernel
theorem dX7_repeat_64 : decode cX7_repeat 64 = .ok (.invokevirtual 69, 3) := by decide +kernel
theorem dX7_repeat_67 : decode cX7_repeat 67 = .ok (.istore 4, 2) := by decide +kernel
theorem dX7_repeat_69 : decode cX7_repeat 69 = .ok (.iload 4, 2) := by decide +kernel
theorem dX7_repeat_71 : decode cX7_repeat 71 = .ok (.istore 5, 2) := by decide +kernel
theorem dX7_repeat_73 : decode cX7_repeat 73 = .ok (.iload 5, 2) := by decide +kernel
theorem dX7_repeat_75 : decode cX7_repeat 75 = .ok (.iload 4, 2) := by decide +kernel
theorem dX7_repeat_77 : decode cX7_repeat 77 = .ok (.iload_n 3, 1) := by decide +kernel
theorem dX7_repeat_78 : decode cX7_repeat 78 = .ok (.imul, 1) := by decide +kernel
theorem dX7_repeat_79 : decode cX7_repeat 79 = .ok (.if_icmp .ge 38, 3) := by decide +kernel
theorem dX7_repeat_82 : decode cX7_repeat 82 = .ok (.aload_n 0, 1) := by decide +kernel
theorem dX7_repeat_83 : decode cX7_repeat 83 = .ok (.getfield 7, 3) := by decide +kernel
theorem dX7_repeat_86 : decode cX7_repeat 86 = .ok (.aload_n 0, 1) := by decide +kernel
theorem dX7_repeat_87 : decode cX7_repeat 87 = .ok (.iload_n 1, 1) := by decide +kernel
theorem dX7_repeat_88 : decode cX7_repeat 88 = .ok (.iload_n 2, 1) := by decide +kernel
theorem dX7_repeat_89 : decode cX7_repeat 89 = .ok (.iload 5, 2) := by decide +kernel
theorem dX7_repeat_91 : decode cX7_repeat 91 = .ok (.invokevirtual 76, 3) := by decide +kernel
theorem dX7_repeat_94 : decode cX7_repeat 94 = .ok (.aload_n 0, 1) := by decide +kernel
theorem dX7_repeat_95 : decode cX7_repeat 95 = .ok (.getfield 7, 3) := by decide +kernel
theorem dX7_repeat_98 : decode cX7_repeat 98 = .ok (.aload_n 0, 1) := by decide +kernel
theorem dX7_repeat_99 : decode cX7_repeat 99 = .ok (.iload_n 1, 1) := by decide +kernel
theorem dX7_repeat_100 : decode cX7_repeat 100 = .ok (.iload_n 2, 1) := by decide +kernel
theorem dX7_repeat_101 : decode cX7_repeat 101 = .ok (.iload 5, 2) := by decide +kernel
theorem dX7_repeat_103 : decode cX7_repeat 103 = .ok (.iload 4, 2) := by decide +kernel
theorem dX7_repeat_105 : decode cX7_repeat 105 = .ok (.isub, 1) := by decide +kernel
theorem dX7_repeat_106 : decode cX7_repeat 106 = .ok (.invokevirtual 76, 3) := by decide +kernel
theorem dX7_repeat_109 : decode cX7_repeat 109 = .ok (.laload, 1) := by decide +kernel
theorem dX7_repeat_110 : decode cX7_repeat 110 = .ok (.lastore, 1) := by decide +kernel
theorem dX7_repeat_111 : decode cX7_repeat 111 = .ok (.iinc 5 1, 3) := by decide +kernel
theorem dX7_repeat_114 : decode cX7_repeat 114 = .ok (.goto (-41), 3) := by decide +kernel
theorem dX7_repeat_117 : decode cX7_repeat 117 = .ok (.aload_n 0, 1) := by decide +kernel
theorem dX7_repeat_118 : decode cX7_repeat 118 = .ok (.iload_n 1, 1) := by decide +kernel
theorem dX7_repeat_119 : decode cX7_repeat 119 = .ok (.iload_n 2, 1) := by decide +kernel
theorem dX7_repeat_120 : decode cX7_repeat 120 = .ok (.iload 4, 2) := by decide +kernel
theorem dX7_repeat_122 : decode cX7_repeat 122 = .ok (.iload_n 3, 1) := by decide +kernel
theorem dX7_repeat_123 : decode cX7_repeat 123 = .ok (.imul, 1) := by decide +kernel
theorem dX7_repeat_124 : decode cX7_repeat 124 = .ok (.invokevirtual 80, 3) := by decide +kernel
theorem dX7_repeat_127 : decode cX7_repeat 127 = .ok (.iload 4, 2) := by decide +kernel
theorem dX7_repeat_129 : decode cX7_repeat 129 = .ok (.iload_n 3, 1) := by decide +kernel
theorem dX7_repeat_130 : decode cX7_repeat 130 = .ok (.imul, 1) := by decide +kernel
theorem dX7_repeat_131 : decode cX7_repeat 131 = .ok (.ireturn, 1) := by decide +kernel
theorem dX7_reverse_0 : decode cX7_reverse 0 = .ok (.aload_n 0, 1) := by decide +kernel
theorem dX7_reverse_1 : decode cX7_reverse 1 = .ok (.aload_n 0, 1) := by decide +kernel
theorem dX7_reverse_2 : decode cX7_reverse 2 = .ok (.iload_n 1, 1) := by decide +kernel
theorem dX7_reverse_3 : decode cX7_reverse 3 = .ok (.iload_n 2, 1) := by decide +kernel
theorem dX7_reverse_4 : decode cX7_reverse 4 = .ok (.invokevirtual 84, 3) := by decide +kernel
theorem dX7_reverse_7 : decode cX7_reverse 7 = .ok (.invokevirtual 73, 3) := by decide +kernel
theorem dX7_reverse_10 : decode cX7_reverse 10 = .ok (.ifCond .eq 5, 3) := by decide +kernel
theorem dX7_reverse_13 : decode cX7_reverse 13 = .ok (.iconst 0, 1) := by decide +kernel
theorem dX7_reverse_14 : decode cX7_reverse 14 = .ok (.ireturn, 1) := by decide +kernel
theorem dX7_reverse_15 : decode cX7_reverse 15 = .ok (.aload_n 0, 1) := by decide +kernel
theorem dX7_reverse_16 : decode cX7_reverse 16 = .ok (.iload_n 1, 1) := by decide +kernel
theorem dX7_reverse_17 : decode cX7_reverse 17 = .ok (.iload_n 2, 1) := by decide +kernel
theorem dX7_reverse_18 : decode cX7_reverse 18 = .ok (.invokevirtual 69, 3) := by decide +kernel
theorem dX7_reverse_21 : decode cX7_reverse 21 = .ok (.istore_n 3, 1) := by decide +kernel
theorem dX7_reverse_22 : decode cX7_reverse 22 = .ok (.iconst 0, 1) := by decide +kernel
theorem dX7_reverse_23 : decode cX7_reverse 23 = .ok (.istore 4, 2) := by decide +kernel
theorem dX7_reverse_25 : decode cX7_reverse 25 = .ok (.iload 4, 2) := by decide +kernel
theorem dX7_reverse_27 : decode cX7_reverse 27 = .ok (.iload_n 3, 1) := by decide +kernel
theorem dX7_reverse_28 : decode cX7_reverse 28 = .ok (.iconst 1, 1) := by decide +kernel
theorem dX7_reverse_29 : decode cX7_reverse 29 = .ok (.isub, 1) := by decide +kernel
theorem dX7_reverse_30 : decode cX7_reverse 30 = .ok (.iload 4, 2) := by decide +kernel
theorem dX7_reverse_32 : decode cX7_reverse 32 = .ok (.isub, 1) := by decide +kernel
theorem dX7_reverse_33 : decode cX7_reverse 33 = .ok (.if_icmp .ge 73, 3) := by decide +kernel
theorem dX7_reverse_36 : decode cX7_reverse 36 = .ok (.aload_n 0, 1) := by decide +kernel
theorem dX7_reverse_37 : decode cX7_reverse 37 = .ok (.getfield 7, 3) := by decide +kernel
theorem dX7_reverse_40 : decode cX7_reverse 40 = .ok (.aload_n 0, 1) := by decide +kernel
theorem dX7_reverse_41 : decode cX7_reverse 41 = .ok (.iload_n 1, 1) := by decide +kernel
theorem dX7_reverse_42 : decode cX7_reverse 42 = .ok (.iload_n 2, 1) := by decide +kernel
theorem dX7_reverse_43 : decode cX7_reverse 43 = .ok (.iload 4, 2) := by decide +kernel
theorem dX7_reverse_45 : decode cX7_reverse 45 = .ok (.invokevirtual 76, 3) := by decide +kernel
theorem dX7_reverse_48 : decode cX7_reverse 48 = .ok (.laload, 1) := by decide +kernel
theorem dX7_reverse_49 : decode cX7_reverse 49 = .ok (.lstore 5, 2) := by decide +kernel
theorem dX7_reverse_51 : decode cX7_reverse 51 = .ok (.aload_n 0, 1) := by decide +kernel
theorem dX7_reverse_52 : decode cX7_reverse 52 = .ok (.getfield 7, 3) := by decide +kernel
theorem dX7_reverse_55 : decode cX7_reverse 55 = .ok (.aload_n 0, 1) := by decide +kernel
theorem dX7_reverse_56 : decode cX7_reverse 56 = .ok (.iload_n 1, 1) := by decide +kernel
theorem dX7_reverse_57 : decode cX7_reverse 57 = .ok (.iload_n 2, 1) := by decide +kernel
theorem dX7_reverse_58 : decode cX7_reverse 58 = .ok (.iload 4, 2) := by decide +kernel
theorem dX7_reverse_60 : decode cX7_reverse 60 = .ok (.invokevirtual 76, 3) := by decide +kernel
theorem dX7_reverse_63 : decode cX7_reverse 63 = .ok (.aload_n 0, 1) := by decide +kernel
theorem dX7_reverse_64 : decode cX7_reverse 64 = .ok (.getfield 7, 3) := by decide +kernel
theorem dX7_reverse_67 : decode cX7_reverse 67 = .ok (.aload_n 0, 1) := by decide +kernel
theorem dX7_reverse_68 : decode cX7_reverse 68 = .ok (.iload_n 1, 1) := by decide +kernel
theorem dX7_reverse_69 : decode cX7_reverse 69 = .ok (.iload_n 2, 1) := by decide +kernel
theorem dX7_reverse_70 : decode cX7_reverse 70 = .ok (.iload_n 3, 1) := by decide +kernel
theorem dX7_reverse_71 : decode cX7_reverse 71 = .ok (.iconst 1, 1) := by decide +kernel
theorem dX7_reverse_72 : decode cX7_reverse 72 = .ok (.isub, 1) := by decide +kernel
theorem dX7_reverse_73 : decode cX7_reverse 73 = .ok (.iload 4, 2) := by decide +kernel
theorem dX7_reverse_75 : decode cX7_reverse 75 = .ok (.isub, 1) := by decide +kernel
theorem dX7_reverse_76 : decode cX7_reverse 76 = .ok (.invokevirtual 76, 3) := by decide +kernel
theorem dX7_reverse_79 : decode cX7_reverse 79 = .ok (.laload, 1) := by decide +kernel
theorem dX7_reverse_80 : decode cX7_reverse 80 = .ok (.lastore, 1) := by decide +kernel
theorem dX7_reverse_81 : decode cX7_reverse 81 = .ok (.aload_n 0, 1) := by decide +kernel
theorem dX7_reverse_82 : decode cX7_reverse 82 = .ok (.getfield 7, 3) := by decide +kernel
theorem dX7_reverse_85 : decode cX7_reverse 85 = .ok (.aload_n 0, 1) := by decide +kernel
theorem dX7_reverse_86 : decode cX7_reverse 86 = .ok (.iload_n 1, 1) := by decide +kernel
theorem dX7_reverse_87 : decode cX7_reverse 87 = .ok (.iload_n 2, 1) := by decide +kernel
theorem dX7_reverse_88 : decode cX7_reverse 88 = .ok (.iload_n 3, 1) := by decide +kernel
theorem dX7_reverse_89 : decode cX7_reverse 89 = .ok (.iconst 1, 1) := by decide +kernel
theorem dX7_reverse_90 : decode cX7_reverse 90 = .ok (.isub, 1) := by decide +kernel
theorem dX7_reverse_91 : decode cX7_reverse 91 = .ok (.iload 4, 2) := by decide +kernel
theorem dX7_reverse_93 : decode cX7_reverse 93 = .ok (.isub, 1) := by decide +kernel
theorem dX7_reverse_94 : decode cX7_reverse 94 = .ok (.invokevirtual 76, 3) := by decide +kernel
theorem dX7_reverse_97 : decode cX7_reverse 97 = .ok (.lload 5, 2) := by decide +kernel
theorem dX7_reverse_99 : decode cX7_reverse 99 = .ok (.lastore, 1) := by decide +kernel
theorem dX7_reverse_100 : decode cX7_reverse 100 = .ok (.iinc 4 1, 3) := by decide +kernel
theorem dX7_reverse_103 : decode cX7_reverse 103 = .ok (.goto (-78), 3) := by decide +kernel
theorem dX7_reverse_106 : decode cX7_reverse 106 = .ok (.iload_n 3, 1) := by decide +kernel
theorem dX7_reverse_107 : decode cX7_reverse 107 = .ok (.ireturn, 1) := by decide +kernel
theorem dX7_cut_0 : decode cX7_cut 0 = .ok (.aload_n 0, 1) := by decide +kernel
theorem dX7_cut_1 : decode cX7_cut 1 = .ok (.iload_n 1, 1) := by decide +kernel
theorem dX7_cut_2 : decode cX7_cut 2 = .ok (.invokestatic 57, 3) := by decide +kernel
theorem dX7_cut_5 : decode cX7_cut 5 = .ok (.ifCond .ne 7, 3) := by decide +kernel
theorem dX7_cut_8 : decode cX7_cut 8 = .ok (.iconst 1, 1) := by decide +kernel
theorem dX7_cut_9 : decode cX7_cut 9 = .ok (.goto 38, 3) := by decide +kernel
theorem dX7_cut_12 : decode cX7_cut 12 = .ok (.iload_n 2, 1) := by decide +kernel
theorem dX7_cut_13 : decode cX7_cut 13 = .ok (.invokestatic 61, 3) := by decide +kernel
theorem dX7_cut_16 : decode cX7_cut 16 = .ok (.ifCond .eq 26, 3) := by decide +kernel
theorem dX7_cut_19 : decode cX7_cut 19 = .ok (.iload_n 3, 1) := by decide +kernel
theorem dX7_cut_20 : decode cX7_cut 20 = .ok (.i2l, 1) := by decide +kernel
theorem dX7_cut_21 : decode cX7_cut 21 = .ok (.lconst 0, 1) := by decide +kernel
theorem dX7_cut_22 : decode cX7_cut 22 = .ok (.iload 4, 2) := by decide +kernel
theorem dX7_cut_24 : decode cX7_cut 24 = .ok (.i2l, 1) := by decide +kernel
theorem dX7_cut_25 : decode cX7_cut 25 = .ok (.invokestatic 39, 3) := by decide +kernel
theorem dX7_cut_28 : decode cX7_cut 28 = .ok (.ifCond .eq 14, 3) := by decide +kernel
theorem dX7_cut_31 : decode cX7_cut 31 = .ok (.iload 4, 2) := by decide +kernel
theorem dX7_cut_33 : decode cX7_cut 33 = .ok (.aload_n 0, 1) := by decide +kernel
theorem dX7_cut_34 : decode cX7_cut 34 = .ok (.iload_n 1, 1) := by decide +kernel
theorem dX7_cut_35 : decode cX7_cut 35 = .ok (.iload_n 2, 1) := by decide +kernel
theorem dX7_cut_36 : decode cX7_cut 36 = .ok (.invokevirtual 69, 3) := by decide +kernel
theorem dX7_cut_39 : decode cX7_cut 39 = .ok (.if_icmp .le 7, 3) := by decide +kernel
theorem dX7_cut_42 : decode cX7_cut 42 = .ok (.iconst 2, 1) := by decide +kernel
theorem dX7_cut_43 : decode cX7_cut 43 = .ok (.goto 4, 3) := by decide +kernel
theorem dX7_cut_46 : decode cX7_cut 46 = .ok (.iconst 0, 1) := by decide +kernel
theorem dX7_cut_47 : decode cX7_cut 47 = .ok (.invokevirtual 73, 3) := by decide +kernel
theorem dX7_cut_50 : decode cX7_cut 50 = .ok (.ifCond .eq 5, 3) := by decide +kernel
theorem dX7_cut_53 : decode cX7_cut 53 = .ok (.iconst 0, 1) := by decide +kernel
theorem dX7_cut_54 : decode cX7_cut 54 = .ok (.ireturn, 1) := by decide +kernel
theorem dX7_cut_55 : decode cX7_cut 55 = .ok (.iload_n 3, 1) := by decide +kernel
theorem dX7_cut_56 : decode cX7_cut 56 = .ok (.istore 5, 2) := by decide +kernel
theorem dX7_cut_58 : decode cX7_cut 58 = .ok (.iload 5, 2) := by decide +kernel
theorem dX7_cut_60 : decode cX7_cut 60 = .ok (.iload 4, 2) := by decide +kernel
theorem dX7_cut_62 : decode cX7_cut 62 = .ok (.if_icmp .ge 37, 3) := by decide +kernel
theorem dX7_cut_65 : decode cX7_cut 65 = .ok (.aload_n 0, 1) := by decide +kernel
theorem dX7_cut_66 : decode cX7_cut 66 = .ok (.getfield 7, 3) := by decide +kernel
theorem dX7_cut_69 : decode cX7_cut 69 = .ok (.aload_n 0, 1) := by decide +kernel
theorem dX7_cut_70 : decode cX7_cut 70 = .ok (.iload_n 1, 1) := by decide +kernel
theorem dX7_cut_71 : decode cX7_cut 71 = .ok (.iload_n 2, 1) := by decide +kernel
theorem dX7_cut_72 : decode cX7_cut 72 = .ok (.iload 5, 2) := by decide +kernel
theorem dX7_cut_74 : decode cX7_cut 74 = .ok (.iload_n 3, 1) := by decide +kernel
theorem dX7_cut_75 : decode cX7_cut 75 = .ok (.isub, 1) := by decide +kernel
theorem dX7_cut_76 : decode cX7_cut 76 = .ok (.invokevirtual 76, 3) := by decide +kernel
theorem dX7_cut_79 : decode cX7_cut 79 = .ok (.aload_n 0, 1) := by decide +kernel
theorem dX7_cut_80 : decode cX7_cut 80 = .ok (.getfield 7, 3) := by decide +kernel
theorem dX7_cut_83 : decode cX7_cut 83 = .ok (.aload_n 0, 1) := by decide +kernel
theorem dX7_cut_84 : decode cX7_cut 84 = .ok (.iload_n 1, 1) := by decide +kernel
theorem dX7_cut_85 : decode cX7_cut 85 = .ok (.iload_n 2, 1) := by decide +kernel
theorem dX7_cut_86 : decode cX7_cut 86 = .ok (.iload 5, 2) := by decide +kernel
theorem dX7_cut_88 : decode cX7_cut 88 = .ok (.invokevirtual 76, 3) := by decide +kernel
theorem dX7_cut_91 : decode cX7_cut 91 = .ok (.laload, 1) := by decide +kernel
theorem dX7_cut_92 : decode cX7_cut 92 = .ok (.lastore, 1) := by decide +kernel
theorem dX7_cut_93 : decode cX7_cut 93 = .ok (.iinc 5 1, 3) := by decide +kernel
theorem dX7_cut_96 : decode cX7_cut 96 = .ok (.goto (-38), 3) := by decide +kernel
theorem dX7_cut_99 : decode cX7_cut 99 = .ok (.aload_n 0, 1) := by decide +kernel
theorem dX7_cut_100 : decode cX7_cut 100 = .ok (.iload_n 1, 1) := by decide +kernel
theorem dX7_cut_101 : decode cX7_cut 101 = .ok (.iload_n 2, 1) := by decide +kernel
theorem dX7_cut_102 : decode cX7_cut 102 = .ok (.iload 4, 2) := by decide +kernel
theorem dX7_cut_104 : decode cX7_cut 104 = .ok (.iload_n 3, 1) := by decide +kernel
theorem dX7_cut_105 : decode cX7_cut 105 = .ok (.isub, 1) := by decide +kernel
theorem dX7_cut_106 : decode cX7_cut 106 = .ok (.invokevirtual 80, 3) := by decide +kernel
theorem dX7_cut_109 : decode cX7_cut 109 = .ok (.iload 4, 2) := by decide +kernel
theorem dX7_cut_111 : decode cX7_cut 111 = .ok (.iload_n 3, 1) := by decide +kernel
theorem dX7_cut_112 : decode cX7_cut 112 = .ok (.isub, 1) := by decide +kernel
theorem dX7_cut_113 : decode cX7_cut 113 = .ok (.ireturn, 1) := by decide +kernel
theorem dX7_half_0 : decode cX7_half 0 = .ok (.iload_n 0, 1) := by decide +kernel
theorem dX7_half_1 : decode cX7_half 1 = .ok (.ifCond .ne 9, 3) := by decide +kernel
theorem dX7_half_4 : decode cX7_half 4 = .ok (.ldc2_w 89, 3) := by decide +kernel
theorem dX7_half_7 : decode cX7_half 7 = .ok (.goto 17, 3) := by decide +kernel
theorem dX7_half_10 : decode cX7_half 10 = .ok (.iload_n 0, 1) := by decide +kernel
theorem dX7_half_11 : decode cX7_half 11 = .ok (.iconst 1, 1) := by decide +kernel
theorem dX7_half_12 : decode cX7_half 12 = .ok (.if_icmp .ne 9, 3) := by decide +kernel
theorem dX7_half_15 : decode cX7_half 15 = .ok (.ldc2_w 91, 3) := by decide +kernel
theorem dX7_half_18 : decode cX7_half 18 = .ok (.goto 6, 3) := by decide +kernel
theorem dX7_half_21 : decode cX7_half 21 = .ok (.ldc2_w 93, 3) := by decide +kernel
theorem dX7_half_24 : decode cX7_half 24 = .ok (.lreturn, 1) := by decide +kernel
theorem dX7_convert_0 : decode cX7_convert 0 = .ok (.iload_n 1, 1) := by decide +kernel
theorem dX7_convert_1 : decode cX7_convert 1 = .ok (.invokestatic 57, 3) := by decide +kernel
theorem dX7_convert_4 : decode cX7_convert 4 = .ok (.ifCond .eq 35, 3) := by decide +kernel
theorem dX7_convert_7 : decode cX7_convert 7 = .ok (.iload_n 3, 1) := by decide +kernel
theorem dX7_convert_8 : decode cX7_convert 8 = .ok (.invokestatic 57, 3) := by decide +kernel
theorem dX7_convert_11 : decode cX7_convert 11 = .ok (.ifCond .eq 28, 3) := by decide +kernel
theorem dX7_convert_14 : decode cX7_convert 14 = .ok (.iload 5, 2) := by decide +kernel
theorem dX7_convert_16 : decode cX7_convert 16 = .ok (.bipush 110, 2) := by decide +kernel
theorem dX7_convert_18 : decode cX7_convert 18 = .ok (.if_icmp .eq 17, 3) := by decide +kernel
theorem dX7_convert_21 : decode cX7_convert 21 = .ok (.iload 5, 2) := by decide +kernel
theorem dX7_convert_23 : decode cX7_convert 23 = .ok (.bipush 117, 2) := by decide +kernel
theorem dX7_convert_25 : decode cX7_convert 25 = .ok (.if_icmp .eq 10, 3) := by decide +kernel
theorem dX7_convert_28 : decode cX7_convert 28 = .ok (.iload 5, 2) := by decide +kernel
theorem dX7_convert_30 : decode cX7_convert 30 = .ok (.bipush 116, 2) := by decide +kernel
theorem dX7_convert_32 : decode cX7_convert 32 = .ok (.if_icmp .ne 7, 3) := by decide +kernel
theorem dX7_convert_35 : decode cX7_convert 35 = .ok (.iconst 1, 1) := by decide +kernel
theorem dX7_convert_36 : decode cX7_convert 36 = .ok (.goto 4, 3) := by decide +kernel
theorem dX7_convert_39 : decode cX7_convert 39 = .ok (.iconst 0, 1) := by decide +kernel
theorem dX7_convert_40 : decode cX7_convert 40 = .ok (.istore 6, 2) := by decide +kernel
theorem dX7_convert_42 : decode cX7_convert 42 = .ok (.aload_n 0, 1) := by decide +kernel
theorem dX7_convert_43 : decode cX7_convert 43 = .ok (.iload 6, 2) := by decide +kernel
theorem dX7_convert_45 : decode cX7_convert 45 = .ok (.ifCond .ne 7, 3) := by decide +kernel
theorem dX7_convert_48 : decode cX7_convert 48 = .ok (.iconst 1, 1) := by decide +kernel
theorem dX7_convert_49 : decode cX7_convert 49 = .ok (.goto 23, 3) := by decide +kernel
theorem dX7_convert_52 : decode cX7_convert 52 = .ok (.iload_n 2, 1) := by decide +kernel
theorem dX7_convert_53 : decode cX7_convert 53 = .ok (.invokestatic 61, 3) := by decide +kernel
theorem dX7_convert_56 : decode cX7_convert 56 = .ok (.ifCond .eq 15, 3) := by decide +kernel
theorem dX7_convert_59 : decode cX7_convert 59 = .ok (.iload 4, 2) := by decide +kernel
theorem dX7_convert_61 : decode cX7_convert 61 = .ok (.invokestatic 61, 3) := by decide +kernel
theorem dX7_convert_64 : decode cX7_convert 64 = .ok (.ifCond .eq 7, 3) := by decide +kernel
theorem dX7_convert_67 : decode cX7_convert 67 = .ok (.iconst 0, 1) := by decide +kernel
theorem dX7_convert_68 : decode cX7_convert 68 = .ok (.goto 4, 3) := by decide +kernel
theorem dX7_convert_71 : decode cX7_convert 71 = .ok (.iconst 2, 1) := by decide +kernel
theorem dX7_convert_72 : decode cX7_convert 72 = .ok (.invokevirtual 73, 3) := by decide +kernel
theorem dX7_convert_75 : decode cX7_convert 75 = .ok (.ifCond .eq 5, 3) := by decide +kernel
theorem dX7_convert_78 : decode cX7_convert 78 = .ok (.iconst 0, 1) := by decide +kernel
theorem dX7_convert_79 : decode cX7_convert 79 = .ok (.ireturn, 1) := by decide +kernel
theorem dX7_convert_80 : decode cX7_convert 80 = .ok (.aload_n 0, 1) := by decide +kernel
theorem dX7_convert_81 : decode cX7_convert 81 = .ok (.iload_n 1, 1) := by decide +kernel
theorem dX7_convert_82 : decode cX7_convert 82 = .ok (.iload_n 2, 1) := by decide +kernel
theorem dX7_convert_83 : decode cX7_convert 83 = .ok (.invokevirtual 69, 3) := by decide +kernel
theorem dX7_convert_86 : decode cX7_convert 86 = .ok (.istore 7, 2) := by decide +kernel
theorem dX7_convert_88 : decode cX7_convert 88 = .ok (.iload 7, 2) := by decide +kernel
theorem dX7_convert_90 : decode cX7_convert 90 = .ok (.newarray .long, 2) := by decide +kernel
theorem dX7_convert_92 : decode cX7_convert 92 = .ok (.astore 8, 2) := by decide +kernel
theorem dX7_convert_94 : decode cX7_convert 94 = .ok (.iconst 1, 1) := by decide +kernel
theorem dX7_convert_95 : decode cX7_convert 95 = .ok (.istore 9, 2) := by decide +kernel
theorem dX7_convert_97 : decode cX7_convert 97 = .ok (.iconst 0, 1) := by decide +kernel
theorem dX7_convert_98 : decode cX7_convert 98 = .ok (.istore 10, 2) := by decide +kernel
theorem dX7_convert_100 : decode cX7_convert 100 = .ok (.iload 10, 2) := by decide +kernel
theorem dX7_convert_102 : decode cX7_convert 102 = .ok (.iload 7, 2) := by decide +kernel
theorem dX7_convert_104 : decode cX7_convert 104 = .ok (.if_icmp .ge 179, 3) := by decide +kernel
theorem dX7_convert_107 : decode cX7_convert 107 = .ok (.aload_n 0, 1) := by decide +kernel
theorem dX7_convert_108 : decode cX7_convert 108 = .ok (.getfield 7, 3) := by decide +kernel
theorem dX7_convert_111 : decode cX7_convert 111 = .ok (.aload_n 0, 1) := by decide +kernel
theorem dX7_convert_112 : decode cX7_convert 112 = .ok (.iload_n 1, 1) := by decide +kernel
theorem dX7_convert_113 : decode cX7_convert 113 = .ok (.iload_n 2, 1) := by decide +kernel
theorem dX7_convert_114 : decode cX7_convert 114 = .ok (.iload 10, 2) := by decide +kernel
theorem dX7_convert_116 : decode cX7_convert 116 = .ok (.invokevirtual 76, 3) := by decide +kernel
theorem dX7_convert_119 : decode cX7_convert 119 = .ok (.laload, 1) := by decide +kernel
theorem dX7_convert_120 : decode cX7_convert 120 = .ok (.lstore 11, 2) := by decide +kernel
theorem dX7_convert_122 : decode cX7_convert 122 = .ok (.lload 11, 2) := by decide +kernel
theorem dX7_convert_124 : decode cX7_convert 124 = .ok (.lconst 0, 1) := by decide +kernel
theorem dX7_convert_125 : decode cX7_convert 125 = .ok (.lcmp, 1) := by decide +kernel
theorem dX7_convert_126 : decode cX7_convert 126 = .ok (.ifCond .ge 7, 3) := by decide +kernel
theorem dX7_convert_129 : decode cX7_convert 129 = .ok (.iconst 1, 1) := by decide +kernel
theorem dX7_convert_130 : decode cX7_convert 130 = .ok (.goto 4, 3) := by decide +kernel
theorem dX7_convert_133 : decode cX7_convert 133 = .ok (.iconst 0, 1) := by decide +kernel
theorem dX7_convert_134 : decode cX7_convert 134 = .ok (.istore 13, 2) := by decide +kernel
theorem dX7_convert_136 : decode cX7_convert 136 = .ok (.iload_n 1, 1) := by decide +kernel
theorem dX7_convert_137 : decode cX7_convert 137 = .ok (.bipush 108, 2) := by decide +kernel
theorem dX7_convert_139 : decode cX7_convert 139 = .ok (.if_icmp .ne 54, 3) := by decide +kernel
theorem dX7_convert_142 : decode cX7_convert 142 = .ok (.iload 5, 2) := by decide +kernel
theorem dX7_convert_144 : decode cX7_convert 144 = .ok (.bipush 117, 2) := by decide +kernel
theorem dX7_convert_146 : decode cX7_convert 146 = .ok (.if_icmp .ne 11, 3) := by decide +kernel
theorem dX7_convert_149 : decode cX7_convert 149 = .ok (.iload 13, 2) := by decide +kernel
theorem dX7_convert_151 : decode cX7_convert 151 = .ok (.ifCond .eq 6, 3) := by decide +kernel
theorem dX7_convert_154 : decode cX7_convert 154 = .ok (.iconst 0, 1) := by decide +kernel
theorem dX7_convert_155 : decode cX7_convert 155 = .ok (.istore 9, 2) := by decide +kernel
theorem dX7_convert_157 : decode cX7_convert 157 = .ok (.iload 5, 2) := by decide +kernel
theorem dX7_convert_159 : decode cX7_convert 159 = .ok (.bipush 116, 2) := by decide +kernel
theorem dX7_convert_161 : decode cX7_convert 161 = .ok (.if_icmp .ne 95, 3) := by decide +kernel
theorem dX7_convert_164 : decode cX7_convert 164 = .ok (.iload 13, 2) := by decide +kernel
theorem dX7_convert_166 : decode cX7_convert 166 = .ok (.ifCond .eq 14, 3) := by decide +kernel
theorem dX7_convert_169 : decode cX7_convert 169 = .ok (.lload 11, 2) := by decide +kernel
theorem dX7_convert_171 : decode cX7_convert 171 = .ok (.ldc2_w 97, 3) := by decide +kernel
theorem dX7_convert_174 : decode cX7_convert 174 = .ok (.ladd, 1) := by decide +kernel
theorem dX7_convert_175 : decode cX7_convert 175 = .ok (.lconst 1, 1) := by decide +kernel
theorem dX7_convert_176 : decode cX7_convert 176 = .ok (.ladd, 1) := by decide +kernel
theorem dX7_convert_177 : decode cX7_convert 177 = .ok (.goto 11, 3) := by decide +kernel
theorem dX7_convert_180 : decode cX7_convert 180 = .ok (.lload 11, 2) := by decide +kernel
theorem dX7_convert_182 : decode cX7_convert 182 = .ok (.ldc2_w 97, 3) := by decide +kernel
theorem dX7_convert_185 : decode cX7_convert 185 = .ok (.lsub, 1) := by decide +kernel
theorem dX7_convert_186 : decode cX7_convert 186 = .ok (.lconst 1, 1) := by decide +kernel
theorem dX7_convert_187 : decode cX7_convert 187 = .ok (.lsub, 1) := by decide +kernel
theorem dX7_convert_188 : decode cX7_convert 188 = .ok (.lstore 11, 2) := by decide +kernel
theorem dX7_convert_190 : decode cX7_convert 190 = .ok (.goto 66, 3) := by decide +kernel
theorem dX7_convert_193 : decode cX7_convert 193 = .ok (.iload 5, 2) := by decide +kernel
theorem dX7_convert_195 : decode cX7_convert 195 = .ok (.bipush 117, 2) := by decide +kernel
theorem dX7_convert_197 : decode cX7_convert 197 = .ok (.if_icmp .ne 24, 3) := by decide +kernel
theorem dX7_convert_200 : decode cX7_convert 200 = .ok (.iload 13, 2) := by decide +kernel
theorem dX7_convert_202 : decode cX7_convert 202 = .ok (.ifCond .eq 19, 3) := by decide +kernel
theorem dX7_convert_205 : decode cX7_convert 205 = .ok (.lload 11, 2) := by decide +kernel
theorem dX7_convert_207 : decode cX7_convert 207 = .ok (.ldc2_w 99, 3) := by decide +kernel
theorem dX7_convert_210 : decode cX7_convert 210 = .ok (.iload_n 1, 1) := by decide +kernel
theorem dX7_convert_211 : decode cX7_convert 211 = .ok (.invokestatic 33, 3) := by decide +kernel
theorem dX7_convert_214 : decode cX7_convert 214 = .ok (.invokestatic 101, 3) := by decide +kernel
theorem dX7_convert_217 : decode cX7_convert 217 = .ok (.lmul, 1) := by decide +kernel
theorem dX7_convert_218 : decode cX7_convert 218 = .ok (.ladd, 1) := by decide +kernel
theorem dX7_convert_219 : decode cX7_convert 219 = .ok (.lstore 11, 2) := by decide +kernel
theorem dX7_convert_221 : decode cX7_convert 221 = .ok (.iload 5, 2) := by decide +kernel
theorem dX7_convert_223 : decode cX7_convert 223 = .ok (.bipush 116, 2) := by decide +kernel
theorem dX7_convert_225 : decode cX7_convert 225 = .ok (.if_icmp .ne 31, 3) := by decide +kernel
theorem dX7_convert_228 : decode cX7_convert 228 = .ok (.lload 11, 2) := by decide +kernel
theorem dX7_convert_230 : decode cX7_convert 230 = .ok (.iload 13, 2) := by decide +kernel
theorem dX7_convert_232 : decode cX7_convert 232 = .ok (.ifCond .eq 13, 3) := by decide +kernel
theorem dX7_convert_235 : decode cX7_convert 235 = .ok (.iload_n 1, 1) := by decide +kernel
theorem dX7_convert_236 : decode cX7_convert 236 = .ok (.invokestatic 33, 3) := by decide +kernel
theorem dX7_convert_239 : decode cX7_convert 239 = .ok (.invokestatic 101, 3) := by decide +kernel
theorem dX7_convert_242 : decode cX7_convert 242 = .ok (.goto 11, 3) := by decide +kernel
theorem dX7_convert_245 : decode cX7_convert 245 = .ok (.iload_n 1, 1) := by decide +kernel
theorem dX7_convert_246 : decode cX7_convert 246 = .ok (.invokestatic 33, 3) := by decide +kernel
theorem dX7_convert_249 : decode cX7_convert 249 = .ok (.invokestatic 101, 3) := by decide +kernel
theorem dX7_convert_252 : decode cX7_convert 252 = .ok (.lneg, 1) := by decide +kernel
theorem dX7_convert_253 : decode cX7_convert 253 = .ok (.ladd, 1) := by decide +kernel
theorem dX7_convert_254 : decode cX7_convert 254 = .ok (.lstore 11, 2) := by decide +kernel
theorem dX7_convert_256 : decode cX7_convert 256 = .ok (.iload 9, 2) := by decide +kernel
theorem dX7_convert_258 : decode cX7_convert 258 = .ok (.iload_n 3, 1) := by decide +kernel
theorem dX7_convert_259 : decode cX7_convert 259 = .ok (.invokestatic 33, 3) := by decide +kernel
theorem dX7_convert_262 : decode cX7_convert 262 = .ok (.lload 11, 2) := by decide +kernel
theorem dX7_convert_264 : decode cX7_convert 264 = .ok (.invokestatic 65, 3) := by decide +kernel
theorem dX7_convert_267 : decode cX7_convert 267 = .ok (.iand, 1) := by decide +kernel
theorem dX7_convert_268 : decode cX7_convert 268 = .ok (.istore 9, 2) := by decide +kernel
theorem dX7_convert_270 : decode cX7_convert 270 = .ok (.aload 8, 2) := by decide +kernel
theorem dX7_convert_272 : decode cX7_convert 272 = .ok (.iload 10, 2) := by decide +kernel
theorem dX7_convert_274 : decode cX7_convert 274 = .ok (.lload 11, 2) := by decide +kernel
theorem dX7_convert_276 : decode cX7_convert 276 = .ok (.lastore, 1) := by decide +kernel
theorem dX7_convert_277 : decode cX7_convert 277 = .ok (.iinc 10 1, 3) := by decide +kernel
theorem dX7_convert_280 : decode cX7_convert 280 = .ok (.goto (-180), 3) := by decide +kernel
theorem dX7_convert_283 : decode cX7_convert 283 = .ok (.aload_n 0, 1) := by decide +kernel
theorem dX7_convert_284 : decode cX7_convert 284 = .ok (.iload 9, 2) := by decide +kernel
theorem dX7_convert_286 : decode cX7_convert 286 = .ok (.ifCond .eq 7, 3) := by decide +kernel
theorem dX7_convert_289 : decode cX7_convert 289 = .ok (.iconst 0, 1) := by decide +kernel
theorem dX7_convert_290 : decode cX7_convert 290 = .ok (.goto 4, 3) := by decide +kernel
theorem dX7_convert_293 : decode cX7_convert 293 = .ok (.iconst 3, 1) := by decide +kernel
theorem dX7_convert_294 : decode cX7_convert 294 = .ok (.invokevirtual 73, 3) := by decide +kernel
theorem dX7_convert_297 : decode cX7_convert 297 = .ok (.ifCond .eq 5, 3) := by decide +kernel
theorem dX7_convert_300 : decode cX7_convert 300 = .ok (.iconst 0, 1) := by decide +kernel
theorem dX7_convert_301 : decode cX7_convert 301 = .ok (.ireturn, 1) := by decide +kernel
theorem dX7_convert_302 : decode cX7_convert 302 = .ok (.iconst 0, 1) := by decide +kernel
theorem dX7_convert_303 : decode cX7_convert 303 = .ok (.istore 10, 2) := by decide +kernel
theorem dX7_convert_305 : decode cX7_convert 305 = .ok (.iload 10, 2) := by decide +kernel
theorem dX7_convert_307 : decode cX7_convert 307 = .ok (.iload 7, 2) := by decide +kernel
theorem dX7_convert_309 : decode cX7_convert 309 = .ok (.if_icmp .ge 28, 3) := by decide +kernel
theorem dX7_convert_312 : decode cX7_convert 312 = .ok (.aload_n 0, 1) := by decide +kernel
theorem dX7_convert_313 : decode cX7_convert 313 = .ok (.getfield 7, 3) := by decide +kernel
theorem dX7_convert_316 : decode cX7_convert 316 = .ok (.aload_n 0, 1) := by decide +kernel
theorem dX7_convert_317 : decode cX7_convert 317 = .ok (.iload_n 3, 1) := by decide +kernel
theorem dX7_convert_318 : decode cX7_convert 318 = .ok (.iload 4, 2) := by decide +kernel
theorem dX7_convert_320 : decode cX7_convert 320 = .ok (.iload 10, 2) := by decide +kernel
theorem dX7_convert_322 : decode cX7_convert 322 = .ok (.invokevirtual 76, 3) := by decide +kernel
theorem dX7_convert_325 : decode cX7_convert 325 = .ok (.aload 8, 2) := by decide +kernel
theorem dX7_convert_327 : decode cX7_convert 327 = .ok (.iload 10, 2) := by decide +kernel
theorem dX7_convert_329 : decode cX7_convert 329 = .ok (.laload, 1) := by decide +kernel
theorem dX7_convert_330 : decode cX7_convert 330 = .ok (.lastore, 1) := by decide +kernel
theorem dX7_convert_331 : decode cX7_convert 331 = .ok (.iinc 10 1, 3) := by decide +kernel
theorem dX7_convert_334 : decode cX7_convert 334 = .ok (.goto (-29), 3) := by decide +kernel
theorem dX7_convert_337 : decode cX7_convert 337 = .ok (.aload_n 0, 1) := by decide +kernel
theorem dX7_convert_338 : decode cX7_convert 338 = .ok (.iload_n 3, 1) := by decide +kernel
theorem dX7_convert_339 : decode cX7_convert 339 = .ok (.iload 4, 2) := by decide +kernel
theorem dX7_convert_341 : decode cX7_convert 341 = .ok (.iload 7, 2) := by decide +kernel
theorem dX7_convert_343 : decode cX7_convert 343 = .ok (.invokevirtual 80, 3) := by decide +kernel
theorem dX7_convert_346 : decode cX7_convert 346 = .ok (.iload 7, 2) := by decide +kernel
theorem dX7_convert_348 : decode cX7_convert 348 = .ok (.ireturn, 1) := by decide +kernel
theorem dX7_span_0 : decode cX7_span 0 = .ok (.aload_n 0, 1) := by decide +kernel
theorem dX7_span_1 : decode cX7_span 1 = .ok (.iload_n 1, 1) := by decide +kernel
theorem dX7_span_2 : decode cX7_span 2 = .ok (.invokestatic 105, 3) := by decide +kernel
theorem dX7_span_5 : decode cX7_span 5 = .ok (.ifCond .eq 10, 3) := by decide +kernel
theorem dX7_span_8 : decode cX7_span 8 = .ok (.iload_n 2, 1) := by decide +kernel
theorem dX7_span_9 : decode cX7_span 9 = .ok (.invokestatic 61, 3) := by decide +kernel
theorem dX7_span_12 : decode cX7_span 12 = .ok (.ifCond .ne 7, 3) := by decide +kernel
theorem dX7_span_15 : decode cX7_span 15 = .ok (.iconst 1, 1) := by decide +kernel
theorem dX7_span_16 : decode cX7_span 16 = .ok (.goto 34, 3) := by decide +kernel
theorem dX7_span_19 : decode cX7_span 19 = .ok (.iload_n 3, 1) := by decide +kernel
theorem dX7_span_20 : decode cX7_span 20 = .ok (.i2l, 1) := by decide +kernel
theorem dX7_span_21 : decode cX7_span 21 = .ok (.lconst 0, 1) := by decide +kernel
theorem dX7_span_22 : decode cX7_span 22 = .ok (.ldc2_w 108, 3) := by decide +kernel
theorem dX7_span_25 : decode cX7_span 25 = .ok (.invokestatic 39, 3) := by decide +kernel
theorem dX7_span_28 : decode cX7_span 28 = .ok (.ifCond .eq 21, 3) := by decide +kernel
theorem dX7_span_31 : decode cX7_span 31 = .ok (.iload 4, 2) := by decide +kernel
theorem dX7_span_33 : decode cX7_span 33 = .ok (.i2l, 1) := by decide +kernel
theorem dX7_span_34 : decode cX7_span 34 = .ok (.iload_n 3, 1) := by decide +kernel
theorem dX7_span_35 : decode cX7_span 35 = .ok (.i2l, 1) := by decide +kernel
theorem dX7_span_36 : decode cX7_span 36 = .ok (.ldc2_w 108, 3) := by decide +kernel
theorem dX7_span_39 : decode cX7_span 39 = .ok (.invokestatic 39, 3) := by decide +kernel
theorem dX7_span_42 : decode cX7_span 42 = .ok (.ifCond .eq 7, 3) := by decide +kernel
theorem dX7_span_45 : decode cX7_span 45 = .ok (.iconst 0, 1) := by decide +kernel
theorem dX7_span_46 : decode cX7_span 46 = .ok (.goto 4, 3) := by decide +kernel
theorem dX7_span_49 : decode cX7_span 49 = .ok (.iconst 2, 1) := by decide +kernel
theorem dX7_span_50 : decode cX7_span 50 = .ok (.invokevirtual 73, 3) := by decide +kernel
theorem dX7_span_53 : decode cX7_span 53 = .ok (.ifCond .eq 5, 3) := by decide +kernel
theorem dX7_span_56 : decode cX7_span 56 = .ok (.iconst 0, 1) := by decide +kernel
theorem dX7_span_57 : decode cX7_span 57 = .ok (.ireturn, 1) := by decide +kernel
theorem dX7_span_58 : decode cX7_span 58 = .ok (.aload_n 0, 1) := by decide +kernel
theorem dX7_span_59 : decode cX7_span 59 = .ok (.getfield 17, 3) := by decide +kernel
theorem dX7_span_62 : decode cX7_span 62 = .ok (.iload_n 1, 1) := by decide +kernel
theorem dX7_span_63 : decode cX7_span 63 = .ok (.iload_n 2, 1) := by decide +kernel
theorem dX7_span_64 : decode cX7_span 64 = .ok (.iastore, 1) := by decide +kernel
theorem dX7_span_65 : decode cX7_span 65 = .ok (.aload_n 0, 1) := by decide +kernel
theorem dX7_span_66 : decode cX7_span 66 = .ok (.getfield 20, 3) := by decide +kernel
theorem dX7_span_69 : decode cX7_span 69 = .ok (.iload_n 1, 1) := by decide +kernel
theorem dX7_span_70 : decode cX7_span 70 = .ok (.iload_n 3, 1) := by decide +kernel
theorem dX7_span_71 : decode cX7_span 71 = .ok (.iastore, 1) := by decide +kernel
theorem dX7_span_72 : decode cX7_span 72 = .ok (.aload_n 0, 1) := by decide +kernel
theorem dX7_span_73 : decode cX7_span 73 = .ok (.getfield 23, 3) := by decide +kernel
theorem dX7_span_76 : decode cX7_span 76 = .ok (.iload_n 1, 1) := by decide +kernel
theorem dX7_span_77 : decode cX7_span 77 = .ok (.iload 4, 2) := by decide +kernel
theorem dX7_span_79 : decode cX7_span 79 = .ok (.iastore, 1) := by decide +kernel
theorem dX7_span_80 : decode cX7_span 80 = .ok (.iload 4, 2) := by decide +kernel
theorem dX7_span_82 : decode cX7_span 82 = .ok (.iload_n 3, 1) := by decide +kernel
theorem dX7_span_83 : decode cX7_span 83 = .ok (.isub, 1) := by decide +kernel
theorem dX7_span_84 : decode cX7_span 84 = .ok (.ireturn, 1) := by decide +kernel
theorem dX7_tells_0 : decode cX7_tells 0 = .ok (.aload_n 0, 1) := by decide +kernel
theorem dX7_tells_1 : decode cX7_tells 1 = .ok (.iload_n 1, 1) := by decide +kernel
theorem dX7_tells_2 : decode cX7_tells 2 = .ok (.invokestatic 105, 3) := by decide +kernel
theorem dX7_tells_5 : decode cX7_tells 5 = .ok (.ifCond .ne 7, 3) := by decide +kernel
theorem dX7_tells_8 : decode cX7_tells 8 = .ok (.iconst 1, 1) := by decide +kernel
theorem dX7_tells_9 : decode cX7_tells 9 = .ok (.goto 26, 3) := by decide +kernel
theorem dX7_tells_12 : decode cX7_tells 12 = .ok (.iload_n 2, 1) := by decide +kernel
theorem dX7_tells_13 : decode cX7_tells 13 = .ok (.bipush 114, 2) := by decide +kernel
theorem dX7_tells_15 : decode cX7_tells 15 = .ok (.if_icmp .eq 15, 3) := by decide +kernel
theorem dX7_tells_18 : decode cX7_tells 18 = .ok (.iload_n 2, 1) := by decide +kernel
theorem dX7_tells_19 : decode cX7_tells 19 = .ok (.bipush 102, 2) := by decide +kernel
theorem dX7_tells_21 : decode cX7_tells 21 = .ok (.if_icmp .eq 9, 3) := by decide +kernel
theorem dX7_tells_24 : decode cX7_tells 24 = .ok (.iload_n 2, 1) := by decide +kernel
theorem dX7_tells_25 : decode cX7_tells 25 = .ok (.bipush 116, 2) := by decide +kernel
theorem dX7_tells_27 : decode cX7_tells 27 = .ok (.if_icmp .ne 7, 3) := by decide +kernel
theorem dX7_tells_30 : decode cX7_tells 30 = .ok (.iconst 0, 1) := by decide +kernel
theorem dX7_tells_31 : decode cX7_tells 31 = .ok (.goto 4, 3) := by decide +kernel
theorem dX7_tells_34 : decode cX7_tells 34 = .ok (.iconst 2, 1) := by decide +kernel
theorem dX7_tells_35 : decode cX7_tells 35 = .ok (.invokevirtual 73, 3) := by decide +kernel
theorem dX7_tells_38 : decode cX7_tells 38 = .ok (.ifCond .eq 5, 3) := by decide +kernel
theorem dX7_tells_41 : decode cX7_tells 41 = .ok (.iconst 0, 1) := by decide +kernel
theorem dX7_tells_42 : decode cX7_tells 42 = .ok (.ireturn, 1) := by decide +kernel
theorem dX7_tells_43 : decode cX7_tells 43 = .ok (.iload_n 2, 1) := by decide +kernel
theorem dX7_tells_44 : decode cX7_tells 44 = .ok (.bipush 114, 2) := by decide +kernel
theorem dX7_tells_46 : decode cX7_tells 46 = .ok (.if_icmp .ne 12, 3) := by decide +kernel
theorem dX7_tells_49 : decode cX7_tells 49 = .ok (.aload_n 0, 1) := by decide +kernel
theorem dX7_tells_50 : decode cX7_tells 50 = .ok (.getfield 17, 3) := by decide +kernel
theorem dX7_tells_53 : decode cX7_tells 53 = .ok (.iload_n 1, 1) := by decide +kernel
theorem dX7_tells_54 : decode cX7_tells 54 = .ok (.iaload, 1) := by decide +kernel
theorem dX7_tells_55 : decode cX7_tells 55 = .ok (.goto 24, 3) := by decide +kernel
theorem dX7_tells_58 : decode cX7_tells 58 = .ok (.iload_n 2, 1) := by decide +kernel
theorem dX7_tells_59 : decode cX7_tells 59 = .ok (.bipush 102, 2) := by decide +kernel
theorem dX7_tells_61 : decode cX7_tells 61 = .ok (.if_icmp .ne 12, 3) := by decide +kernel
theorem dX7_tells_64 : decode cX7_tells 64 = .ok (.aload_n 0, 1) := by decide +kernel
theorem dX7_tells_65 : decode cX7_tells 65 = .ok (.getfield 20, 3) := by decide +kernel
theorem dX7_tells_68 : decode cX7_tells 68 = .ok (.iload_n 1, 1) := by decide +kernel
theorem dX7_tells_69 : decode cX7_tells 69 = .ok (.iaload, 1) := by decide +kernel
theorem dX7_tells_70 : decode cX7_tells 70 = .ok (.goto 9, 3) := by decide +kernel
theorem dX7_tells_73 : decode cX7_tells 73 = .ok (.aload_n 0, 1) := by decide +kernel
theorem dX7_tells_74 : decode cX7_tells 74 = .ok (.getfield 23, 3) := by decide +kernel
theorem dX7_tells_77 : decode cX7_tells 77 = .ok (.iload_n 1, 1) := by decide +kernel
theorem dX7_tells_78 : decode cX7_tells 78 = .ok (.iaload, 1) := by decide +kernel
theorem dX7_tells_79 : decode cX7_tells 79 = .ok (.ireturn, 1) := by decide +kernel
theorem dX7_isFit_0 : decode cX7_isFit 0 = .ok (.aload_n 0, 1) := by decide +kernel
theorem dX7_isFit_1 : decode cX7_isFit 1 = .ok (.getfield 23, 3) := by decide +kernel
theorem dX7_isFit_4 : decode cX7_isFit 4 = .ok (.iload_n 2, 1) := by decide +kernel
theorem dX7_isFit_5 : decode cX7_isFit 5 = .ok (.iaload, 1) := by decide +kernel
theorem dX7_isFit_6 : decode cX7_isFit 6 = .ok (.aload_n 0, 1) := by decide +kernel
theorem dX7_isFit_7 : decode cX7_isFit 7 = .ok (.iload_n 1, 1) := by decide +kernel
theorem dX7_isFit_8 : decode cX7_isFit 8 = .ok (.aload_n 0, 1) := by decide +kernel
theorem dX7_isFit_9 : decode cX7_isFit 9 = .ok (.getfield 17, 3) := by decide +kernel
theorem dX7_isFit_12 : decode cX7_isFit 12 = .ok (.iload_n 2, 1) := by decide +kernel
theorem dX7_isFit_13 : decode cX7_isFit 13 = .ok (.iaload, 1) := by decide +kernel
theorem dX7_isFit_14 : decode cX7_isFit 14 = .ok (.invokevirtual 69, 3) := by decide +kernel
theorem dX7_isFit_17 : decode cX7_isFit 17 = .ok (.if_icmp .gt 7, 3) := by decide +kernel
theorem dX7_isFit_20 : decode cX7_isFit 20 = .ok (.iconst 1, 1) := by decide +kernel
theorem dX7_isFit_21 : decode cX7_isFit 21 = .ok (.goto 4, 3) := by decide +kernel
theorem dX7_isFit_24 : decode cX7_isFit 24 = .ok (.iconst 0, 1) := by decide +kernel
theorem dX7_isFit_25 : decode cX7_isFit 25 = .ok (.ireturn, 1) := by decide +kernel
theorem dX7_fits_0 : decode cX7_fits 0 = .ok (.aload_n 0, 1) := by decide +kernel
theorem dX7_fits_1 : decode cX7_fits 1 = .ok (.iload_n 1, 1) := by decide +kernel
theorem dX7_fits_2 : decode cX7_fits 2 = .ok (.invokestatic 57, 3) := by decide +kernel
theorem dX7_fits_5 : decode cX7_fits 5 = .ok (.ifCond .ne 7, 3) := by decide +kernel
theorem dX7_fits_8 : decode cX7_fits 8 = .ok (.iconst 1, 1) := by decide +kernel
theorem dX7_fits_9 : decode cX7_fits 9 = .ok (.goto 15, 3) := by decide +kernel
theorem dX7_fits_12 : decode cX7_fits 12 = .ok (.iload_n 2, 1) := by decide +kernel
theorem dX7_fits_13 : decode cX7_fits 13 = .ok (.invokestatic 105, 3) := by decide +kernel
theorem dX7_fits_16 : decode cX7_fits 16 = .ok (.ifCond .eq 7, 3) := by decide +kernel
theorem dX7_fits_19 : decode cX7_fits 19 = .ok (.iconst 0, 1) := by decide +kernel
theorem dX7_fits_20 : decode cX7_fits 20 = .ok (.goto 4, 3) := by decide +kernel
theorem dX7_fits_23 : decode cX7_fits 23 = .ok (.iconst 2, 1) := by decide +kernel
theorem dX7_fits_24 : decode cX7_fits 24 = .ok (.invokevirtual 73, 3) := by decide +kernel
theorem dX7_fits_27 : decode cX7_fits 27 = .ok (.ifCond .ne 16, 3) := by decide +kernel
theorem dX7_fits_30 : decode cX7_fits 30 = .ok (.aload_n 0, 1) := by decide +kernel
theorem dX7_fits_31 : decode cX7_fits 31 = .ok (.iload_n 1, 1) := by decide +kernel
theorem dX7_fits_32 : decode cX7_fits 32 = .ok (.iload_n 2, 1) := by decide +kernel
theorem dX7_fits_33 : decode cX7_fits 33 = .ok (.invokevirtual 110, 3) := by decide +kernel
theorem dX7_fits_36 : decode cX7_fits 36 = .ok (.ifCond .eq 7, 3) := by decide +kernel
theorem dX7_fits_39 : decode cX7_fits 39 = .ok (.iconst 1, 1) := by decide +kernel
theorem dX7_fits_40 : decode cX7_fits 40 = .ok (.goto 4, 3) := by decide +kernel
theorem dX7_fits_43 : decode cX7_fits 43 = .ok (.iconst 0, 1) := by decide +kernel
theorem dX7_fits_44 : decode cX7_fits 44 = .ok (.ireturn, 1) := by decide +kernel
theorem dX7_isLess_0 : decode cX7_isLess 0 = .ok (.iload 4, 2) := by decide +kernel
theorem dX7_isLess_2 : decode cX7_isLess 2 = .ok (.bipush 117, 2) := by decide +kernel
theorem dX7_isLess_4 : decode cX7_isLess 4 = .ok (.if_icmp .ne 42, 3) := by decide +kernel
theorem dX7_isLess_7 : decode cX7_isLess 7 = .ok (.lload_n 0, 1) := by decide +kernel
theorem dX7_isLess_8 : decode cX7_isLess 8 = .ok (.lconst 0, 1) := by decide +kernel
theorem dX7_isLess_9 : decode cX7_isLess 9 = .ok (.lcmp, 1) := by decide +kernel
theorem dX7_isLess_10 : decode cX7_isLess 10 = .ok (.ifCond .ge 7, 3) := by decide +kernel
theorem dX7_isLess_13 : decode cX7_isLess 13 = .ok (.iconst 1, 1) := by decide +kernel
theorem dX7_isLess_14 : decode cX7_isLess 14 = .ok (.goto 4, 3) := by decide +kernel
theorem dX7_isLess_17 : decode cX7_isLess 17 = .ok (.iconst 0, 1) := by decide +kernel
theorem dX7_isLess_18 : decode cX7_isLess 18 = .ok (.lload_n 2, 1) := by decide +kernel
theorem dX7_isLess_19 : decode cX7_isLess 19 = .ok (.lconst 0, 1) := by decide +kernel
theorem dX7_isLess_20 : decode cX7_isLess 20 = .ok (.lcmp, 1) := by decide +kernel
theorem dX7_isLess_21 : decode cX7_isLess 21 = .ok (.ifCond .ge 7, 3) := by decide +kernel
theorem dX7_isLess_24 : decode cX7_isLess 24 = .ok (.iconst 1, 1) := by decide +kernel
theorem dX7_isLess_25 : decode cX7_isLess 25 = .ok (.goto 4, 3) := by decide +kernel
theorem dX7_isLess_28 : decode cX7_isLess 28 = .ok (.iconst 0, 1) := by decide +kernel
theorem dX7_isLess_29 : decode cX7_isLess 29 = .ok (.if_icmp .eq 17, 3) := by decide +kernel
theorem dX7_isLess_32 : decode cX7_isLess 32 = .ok (.lload_n 2, 1) := by decide +kernel
theorem dX7_isLess_33 : decode cX7_isLess 33 = .ok (.lconst 0, 1) := by decide +kernel
theorem dX7_isLess_34 : decode cX7_isLess 34 = .ok (.lcmp, 1) := by decide +kernel
theorem dX7_isLess_35 : decode cX7_isLess 35 = .ok (.ifCond .ge 7, 3) := by decide +kernel
theorem dX7_isLess_38 : decode cX7_isLess 38 = .ok (.iconst 1, 1) := by decide +kernel
theorem dX7_isLess_39 : decode cX7_isLess 39 = .ok (.goto 18, 3) := by decide +kernel
theorem dX7_isLess_42 : decode cX7_isLess 42 = .ok (.iconst 0, 1) := by decide +kernel
theorem dX7_isLess_43 : decode cX7_isLess 43 = .ok (.goto 14, 3) := by decide +kernel
theorem dX7_isLess_46 : decode cX7_isLess 46 = .ok (.lload_n 0, 1) := by decide +kernel
theorem dX7_isLess_47 : decode cX7_isLess 47 = .ok (.lload_n 2, 1) := by decide +kernel
theorem dX7_isLess_48 : decode cX7_isLess 48 = .ok (.lcmp, 1) := by decide +kernel
theorem dX7_isLess_49 : decode cX7_isLess 49 = .ok (.ifCond .ge 7, 3) := by decide +kernel
theorem dX7_isLess_52 : decode cX7_isLess 52 = .ok (.iconst 1, 1) := by decide +kernel
theorem dX7_isLess_53 : decode cX7_isLess 53 = .ok (.goto 4, 3) := by decide +kernel
theorem dX7_isLess_56 : decode cX7_isLess 56 = .ok (.iconst 0, 1) := by decide +kernel
theorem dX7_isLess_57 : decode cX7_isLess 57 = .ok (.ireturn, 1) := by decide +kernel
theorem dX7_alike_0 : decode cX7_alike 0 = .ok (.iconst 0, 1) := by decide +kernel
theorem dX7_alike_1 : decode cX7_alike 1 = .ok (.istore 8, 2) := by decide +kernel
theorem dX7_alike_3 : decode cX7_alike 3 = .ok (.iload 8, 2) := by decide +kernel
theorem dX7_alike_5 : decode cX7_alike 5 = .ok (.iload 4, 2) := by decide +kernel
theorem dX7_alike_7 : decode cX7_alike 7 = .ok (.if_icmp .ge 52, 3) := by decide +kernel
theorem dX7_alike_10 : decode cX7_alike 10 = .ok (.iload 8, 2) := by decide +kernel
theorem dX7_alike_12 : decode cX7_alike 12 = .ok (.iload 7, 2) := by decide +kernel
theorem dX7_alike_14 : decode cX7_alike 14 = .ok (.if_icmp .ge 45, 3) := by decide +kernel
theorem dX7_alike_17 : decode cX7_alike 17 = .ok (.aload_n 0, 1) := by decide +kernel
theorem dX7_alike_18 : decode cX7_alike 18 = .ok (.getfield 7, 3) := by decide +kernel
theorem dX7_alike_21 : decode cX7_alike 21 = .ok (.aload_n 0, 1) := by decide +kernel
theorem dX7_alike_22 : decode cX7_alike 22 = .ok (.iload_n 1, 1) := by decide +kernel
theorem dX7_alike_23 : decode cX7_alike 23 = .ok (.iload_n 2, 1) := by decide +kernel
theorem dX7_alike_24 : decode cX7_alike 24 = .ok (.iload_n 3, 1) := by decide +kernel
theorem dX7_alike_25 : decode cX7_alike 25 = .ok (.iload 8, 2) := by decide +kernel
theorem dX7_alike_27 : decode cX7_alike 27 = .ok (.iadd, 1) := by decide +kernel
theorem dX7_alike_28 : decode cX7_alike 28 = .ok (.invokevirtual 76, 3) := by decide +kernel
theorem dX7_alike_31 : decode cX7_alike 31 = .ok (.laload, 1) := by decide +kernel
theorem dX7_alike_32 : decode cX7_alike 32 = .ok (.aload_n 0, 1) := by decide +kernel
theorem dX7_alike_33 : decode cX7_alike 33 = .ok (.getfield 7, 3) := by decide +kernel
theorem dX7_alike_36 : decode cX7_alike 36 = .ok (.aload_n 0, 1) := by decide +kernel
theorem dX7_alike_37 : decode cX7_alike 37 = .ok (.iload_n 1, 1) := by decide +kernel
theorem dX7_alike_38 : decode cX7_alike 38 = .ok (.iload 5, 2) := by decide +kernel
theorem dX7_alike_40 : decode cX7_alike 40 = .ok (.iload 6, 2) := by decide +kernel
theorem dX7_alike_42 : decode cX7_alike 42 = .ok (.iload 8, 2) := by decide +kernel
theorem dX7_alike_44 : decode cX7_alike 44 = .ok (.iadd, 1) := by decide +kernel
theorem dX7_alike_45 : decode cX7_alike 45 = .ok (.invokevirtual 76, 3) := by decide +kernel
theorem dX7_alike_48 : decode cX7_alike 48 = .ok (.laload, 1) := by decide +kernel
theorem dX7_alike_49 : decode cX7_alike 49 = .ok (.lcmp, 1) := by decide +kernel
theorem dX7_alike_50 : decode cX7_alike 50 = .ok (.ifCond .ne 9, 3) := by decide +kernel
theorem dX7_alike_53 : decode cX7_alike 53 = .ok (.iinc 8 1, 3) := by decide +kernel
theorem dX7_alike_56 : decode cX7_alike 56 = .ok (.goto (-53), 3) := by decide +kernel
theorem dX7_alike_59 : decode cX7_alike 59 = .ok (.iload 8, 2) := by decide +kernel
theorem dX7_alike_61 : decode cX7_alike 61 = .ok (.ireturn, 1) := by decide +kernel
theorem dX7_compared_0 : decode cX7_compared 0 = .ok (.aload_n 0, 1) := by decide +kernel
theorem dX7_compared_1 : decode cX7_compared 1 = .ok (.iload_n 1, 1) := by decide +kernel
theorem dX7_compared_2 : decode cX7_compared 2 = .ok (.iload_n 3, 1) := by decide +kernel
theorem dX7_compared_3 : decode cX7_compared 3 = .ok (.iload 4, 2) := by decide +kernel
theorem dX7_compared_5 : decode cX7_compared 5 = .ok (.iload 5, 2) := by decide +kernel
theorem dX7_compared_7 : decode cX7_compared 7 = .ok (.iload 6, 2) := by decide +kernel
theorem dX7_compared_9 : decode cX7_compared 9 = .ok (.iload 7, 2) := by decide +kernel
theorem dX7_compared_11 : decode cX7_compared 11 = .ok (.iload 8, 2) := by decide +kernel
theorem dX7_compared_13 : decode cX7_compared 13 = .ok (.invokevirtual 114, 3) := by decide +kernel
theorem dX7_compared_16 : decode cX7_compared 16 = .ok (.istore 9, 2) := by decide +kernel
theorem dX7_compared_18 : decode cX7_compared 18 = .ok (.iload 9, 2) := by decide +kernel
theorem dX7_compared_20 : decode cX7_compared 20 = .ok (.iload 5, 2) := by decide +kernel
theorem dX7_compared_22 : decode cX7_compared 22 = .ok (.if_icmp .eq 10, 3) := by decide +kernel
theorem dX7_compared_25 : decode cX7_compared 25 = .ok (.iload 9, 2) := by decide +kernel
theorem dX7_compared_27 : decode cX7_compared 27 = .ok (.iload 8, 2) := by decide +kernel
theorem dX7_compared_29 : decode cX7_compared 29 = .ok (.if_icmp .ne 27, 3) := by decide +kernel
theorem dX7_compared_32 : decode cX7_compared 32 = .ok (.iload 5, 2) := by decide +kernel
theorem dX7_compared_34 : decode cX7_compared 34 = .ok (.iload 8, 2) := by decide +kernel
theorem dX7_compared_36 : decode cX7_compared 36 = .ok (.if_icmp .ge 7, 3) := by decide +kernel
theorem dX7_compared_39 : decode cX7_compared 39 = .ok (.iconst (-1), 1) := by decide +kernel
theorem dX7_compared_40 : decode cX7_compared 40 = .ok (.goto 15, 3) := by decide +kernel
theorem dX7_compared_43 : decode cX7_compared 43 = .ok (.iload 5, 2) := by decide +kernel
theorem dX7_compared_45 : decode cX7_compared 45 = .ok (.iload 8, 2) := by decide +kernel
theorem dX7_compared_47 : decode cX7_compared 47 = .ok (.if_icmp .le 7, 3) := by decide +kernel
theorem dX7_compared_50 : decode cX7_compared 50 = .ok (.iconst 1, 1) := by decide +kernel
theorem dX7_compared_51 : decode cX7_compared 51 = .ok (.goto 4, 3) := by decide +kernel
theorem dX7_compared_54 : decode cX7_compared 54 = .ok (.iconst 0, 1) := by decide +kernel
theorem dX7_compared_55 : decode cX7_compared 55 = .ok (.ireturn, 1) := by decide +kernel
theorem dX7_compared_56 : decode cX7_compared 56 = .ok (.aload_n 0, 1) := by decide +kernel
theorem dX7_compared_57 : decode cX7_compared 57 = .ok (.getfield 7, 3) := by decide +kernel
theorem dX7_compared_60 : decode cX7_compared 60 = .ok (.aload_n 0, 1) := by decide +kernel
theorem dX7_compared_61 : decode cX7_compared 61 = .ok (.iload_n 1, 1) := by decide +kernel
theorem dX7_compared_62 : decode cX7_compared 62 = .ok (.iload_n 3, 1) := by decide +kernel
theorem dX7_compared_63 : decode cX7_compared 63 = .ok (.iload 4, 2) := by decide +kernel
theorem dX7_compared_65 : decode cX7_compared 65 = .ok (.iload 9, 2) := by decide +kernel
theorem dX7_compared_67 : decode cX7_compared 67 = .ok (.iadd, 1) := by decide +kernel
theorem dX7_compared_68 : decode cX7_compared 68 = .ok (.invokevirtual 76, 3) := by decide +kernel
theorem dX7_compared_71 : decode cX7_compared 71 = .ok (.laload, 1) := by decide +kernel
theorem dX7_compared_72 : decode cX7_compared 72 = .ok (.aload_n 0, 1) := by decide +kernel
theorem dX7_compared_73 : decode cX7_compared 73 = .ok (.getfield 7, 3) := by decide +kernel
theorem dX7_compared_76 : decode cX7_compared 76 = .ok (.aload_n 0, 1) := by decide +kernel
theorem dX7_compared_77 : decode cX7_compared 77 = .ok (.iload_n 1, 1) := by decide +kernel
theorem dX7_compared_78 : decode cX7_compared 78 = .ok (.iload 6, 2) := by decide +kernel
theorem dX7_compared_80 : decode cX7_compared 80 = .ok (.iload 7, 2) := by decide +kernel
theorem dX7_compared_82 : decode cX7_compared 82 = .ok (.iload 9, 2) := by decide +kernel
theorem dX7_compared_84 : decode cX7_compared 84 = .ok (.iadd, 1) := by decide +kernel
theorem dX7_compared_85 : decode cX7_compared 85 = .ok (.invokevirtual 76, 3) := by decide +kernel
theorem dX7_compared_88 : decode cX7_compared 88 = .ok (.laload, 1) := by decide +kernel
theorem dX7_compared_89 : decode cX7_compared 89 = .ok (.iload_n 2, 1) := by decide +kernel
theorem dX7_compared_90 : decode cX7_compared 90 = .ok (.invokestatic 118, 3) := by decide +kernel
theorem dX7_compared_93 : decode cX7_compared 93 = .ok (.ifCond .eq 7, 3) := by decide +kernel
theorem dX7_compared_96 : decode cX7_compared 96 = .ok (.iconst (-1), 1) := by decide +kernel
theorem dX7_compared_97 : decode cX7_compared 97 = .ok (.goto 4, 3) := by decide +kernel
theorem dX7_compared_100 : decode cX7_compared 100 = .ok (.iconst 1, 1) := by decide +kernel
theorem dX7_compared_101 : decode cX7_compared 101 = .ok (.ireturn, 1) := by decide +kernel
theorem dX7_answer_0 : decode cX7_answer 0 = .ok (.iload_n 2, 1) := by decide +kernel
theorem dX7_answer_1 : decode cX7_answer 1 = .ok (.bipush 99, 2) := by decide +kernel
theorem dX7_answer_3 : decode cX7_answer 3 = .ok (.if_icmp .eq 9, 3) := by decide +kernel
theorem dX7_answer_6 : decode cX7_answer 6 = .ok (.iload_n 2, 1) := by decide +kernel
theorem dX7_answer_7 : decode cX7_answer 7 = .ok (.bipush 117, 2) := by decide +kernel
theorem dX7_answer_9 : decode cX7_answer 9 = .ok (.if_icmp .ne 33, 3) := by decide +kernel
theorem dX7_answer_12 : decode cX7_answer 12 = .ok (.aload_n 0, 1) := by decide +kernel
theorem dX7_answer_13 : decode cX7_answer 13 = .ok (.iload_n 1, 1) := by decide +kernel
theorem dX7_answer_14 : decode cX7_answer 14 = .ok (.iload_n 2, 1) := by decide +kernel
theorem dX7_answer_15 : decode cX7_answer 15 = .ok (.bipush 99, 2) := by decide +kernel
theorem dX7_answer_17 : decode cX7_answer 17 = .ok (.if_icmp .ne 8, 3) := by decide +kernel
theorem dX7_answer_20 : decode cX7_answer 20 = .ok (.bipush 115, 2) := by decide +kernel
theorem dX7_answer_22 : decode cX7_answer 22 = .ok (.goto 5, 3) := by decide +kernel
theorem dX7_answer_25 : decode cX7_answer 25 = .ok (.bipush 117, 2) := by decide +kernel
theorem dX7_answer_27 : decode cX7_answer 27 = .ok (.iload_n 3, 1) := by decide +kernel
theorem dX7_answer_28 : decode cX7_answer 28 = .ok (.iload 4, 2) := by decide +kernel
theorem dX7_answer_30 : decode cX7_answer 30 = .ok (.iload 5, 2) := by decide +kernel
theorem dX7_answer_32 : decode cX7_answer 32 = .ok (.iload 6, 2) := by decide +kernel
theorem dX7_answer_34 : decode cX7_answer 34 = .ok (.iload 7, 2) := by decide +kernel
theorem dX7_answer_36 : decode cX7_answer 36 = .ok (.iload 8, 2) := by decide +kernel
theorem dX7_answer_38 : decode cX7_answer 38 = .ok (.invokevirtual 122, 3) := by decide +kernel
theorem dX7_answer_41 : decode cX7_answer 41 = .ok (.ireturn, 1) := by decide +kernel
theorem dX7_answer_42 : decode cX7_answer 42 = .ok (.aload_n 0, 1) := by decide +kernel
theorem dX7_answer_43 : decode cX7_answer 43 = .ok (.iload_n 1, 1) := by decide +kernel
theorem dX7_answer_44 : decode cX7_answer 44 = .ok (.iload_n 3, 1) := by decide +kernel
theorem dX7_answer_45 : decode cX7_answer 45 = .ok (.iload 4, 2) := by decide +kernel
theorem dX7_answer_47 : decode cX7_answer 47 = .ok (.iload 5, 2) := by decide +kernel
theorem dX7_answer_49 : decode cX7_answer 49 = .ok (.iload 6, 2) := by decide +kernel
theorem dX7_answer_51 : decode cX7_answer 51 = .ok (.iload 7, 2) := by decide +kernel
theorem dX7_answer_53 : decode cX7_answer 53 = .ok (.iload 8, 2) := by decide +kernel
theorem dX7_answer_55 : decode cX7_answer 55 = .ok (.invokevirtual 114, 3) := by decide +kernel
theorem dX7_answer_58 : decode cX7_answer 58 = .ok (.istore 9, 2) := by decide +kernel
theorem dX7_answer_60 : decode cX7_answer 60 = .ok (.iload 5, 2) := by decide +kernel
theorem dX7_answer_62 : decode cX7_answer 62 = .ok (.iload 8, 2) := by decide +kernel
theorem dX7_answer_64 : decode cX7_answer 64 = .ok (.if_icmp .ne 14, 3) := by decide +kernel
theorem dX7_answer_67 : decode cX7_answer 67 = .ok (.iload 9, 2) := by decide +kernel
theorem dX7_answer_69 : decode cX7_answer 69 = .ok (.iload 5, 2) := by decide +kernel
theorem dX7_answer_71 : decode cX7_answer 71 = .ok (.if_icmp .ne 7, 3) := by decide +kernel
theorem dX7_answer_74 : decode cX7_answer 74 = .ok (.iconst 1, 1) := by decide +kernel
theorem dX7_answer_75 : decode cX7_answer 75 = .ok (.goto 4, 3) := by decide +kernel
theorem dX7_answer_78 : decode cX7_answer 78 = .ok (.iconst 0, 1) := by decide +kernel
theorem dX7_answer_79 : decode cX7_answer 79 = .ok (.istore 10, 2) := by decide +kernel
theorem dX7_answer_81 : decode cX7_answer 81 = .ok (.iload_n 2, 1) := by decide +kernel
theorem dX7_answer_82 : decode cX7_answer 82 = .ok (.bipush 101, 2) := by decide +kernel
theorem dX7_answer_84 : decode cX7_answer 84 = .ok (.if_icmp .ne 16, 3) := by decide +kernel
theorem dX7_answer_87 : decode cX7_answer 87 = .ok (.iload 10, 2) := by decide +kernel
theorem dX7_answer_89 : decode cX7_answer 89 = .ok (.ifCond .eq 7, 3) := by decide +kernel
theorem dX7_answer_92 : decode cX7_answer 92 = .ok (.iconst 1, 1) := by decide +kernel
theorem dX7_answer_93 : decode cX7_answer 93 = .ok (.goto 18, 3) := by decide +kernel
theorem dX7_answer_96 : decode cX7_answer 96 = .ok (.iconst 0, 1) := by decide +kernel
theorem dX7_answer_97 : decode cX7_answer 97 = .ok (.goto 14, 3) := by decide +kernel
theorem dX7_answer_100 : decode cX7_answer 100 = .ok (.iload 10, 2) := by decide +kernel
theorem dX7_answer_102 : decode cX7_answer 102 = .ok (.ifCond .eq 7, 3) := by decide +kernel
theorem dX7_answer_105 : decode cX7_answer 105 = .ok (.iconst (-1), 1) := by decide +kernel
theorem dX7_answer_106 : decode cX7_answer 106 = .ok (.goto 5, 3) := by decide +kernel
theorem dX7_answer_109 : decode cX7_answer 109 = .ok (.iload 9, 2) := by decide +kernel
theorem dX7_answer_111 : decode cX7_answer 111 = .ok (.ireturn, 1) := by decide +kernel
theorem dX7_many_0 : decode cX7_many 0 = .ok (.aload_n 0, 1) := by decide +kernel
theorem dX7_many_1 : decode cX7_many 1 = .ok (.getfield 23, 3) := by decide +kernel
theorem dX7_many_4 : decode cX7_many 4 = .ok (.iload_n 1, 1) := by decide +kernel
theorem dX7_many_5 : decode cX7_many 5 = .ok (.iaload, 1) := by decide +kernel
theorem dX7_many_6 : decode cX7_many 6 = .ok (.aload_n 0, 1) := by decide +kernel
theorem dX7_many_7 : decode cX7_many 7 = .ok (.getfield 20, 3) := by decide +kernel
theorem dX7_many_10 : decode cX7_many 10 = .ok (.iload_n 1, 1) := by decide +kernel
theorem dX7_many_11 : decode cX7_many 11 = .ok (.iaload, 1) := by decide +kernel
theorem dX7_many_12 : decode cX7_many 12 = .ok (.isub, 1) := by decide +kernel
theorem dX7_many_13 : decode cX7_many 13 = .ok (.ireturn, 1) := by decide +kernel
theorem dX7_noWords_0 : decode cX7_noWords 0 = .ok (.iload_n 1, 1) := by decide +kernel
theorem dX7_noWords_1 : decode cX7_noWords 1 = .ok (.ifCond .ne 7, 3) := by decide +kernel
theorem dX7_noWords_4 : decode cX7_noWords 4 = .ok (.iconst 1, 1) := by decide +kernel
theorem dX7_noWords_5 : decode cX7_noWords 5 = .ok (.goto 46, 3) := by decide +kernel
theorem dX7_noWords_8 : decode cX7_noWords 8 = .ok (.iload_n 3, 1) := by decide +kernel
theorem dX7_noWords_9 : decode cX7_noWords 9 = .ok (.invokestatic 105, 3) := by decide +kernel
theorem dX7_noWords_12 : decode cX7_noWords 12 = .ok (.ifCond .eq 11, 3) := by decide +kernel
theorem dX7_noWords_15 : decode cX7_noWords 15 = .ok (.iload 4, 2) := by decide +kernel
theorem dX7_noWords_17 : decode cX7_noWords 17 = .ok (.invokestatic 105, 3) := by decide +kernel
theorem dX7_noWords_20 : decode cX7_noWords 20 = .ok (.ifCond .ne 7, 3) := by decide +kernel
theorem dX7_noWords_23 : decode cX7_noWords 23 = .ok (.iconst 2, 1) := by decide +kernel
theorem dX7_noWords_24 : decode cX7_noWords 24 = .ok (.goto 27, 3) := by decide +kernel
theorem dX7_noWords_27 : decode cX7_noWords 27 = .ok (.aload_n 0, 1) := by decide +kernel
theorem dX7_noWords_28 : decode cX7_noWords 28 = .ok (.iload_n 2, 1) := by decide +kernel
theorem dX7_noWords_29 : decode cX7_noWords 29 = .ok (.iload_n 3, 1) := by decide +kernel
theorem dX7_noWords_30 : decode cX7_noWords 30 = .ok (.invokevirtual 110, 3) := by decide +kernel
theorem dX7_noWords_33 : decode cX7_noWords 33 = .ok (.ifCond .eq 17, 3) := by decide +kernel
theorem dX7_noWords_36 : decode cX7_noWords 36 = .ok (.aload_n 0, 1) := by decide +kernel
theorem dX7_noWords_37 : decode cX7_noWords 37 = .ok (.iload_n 2, 1) := by decide +kernel
theorem dX7_noWords_38 : decode cX7_noWords 38 = .ok (.iload 4, 2) := by decide +kernel
theorem dX7_noWords_40 : decode cX7_noWords 40 = .ok (.invokevirtual 110, 3) := by decide +kernel
theorem dX7_noWords_43 : decode cX7_noWords 43 = .ok (.ifCond .eq 7, 3) := by decide +kernel
theorem dX7_noWords_46 : decode cX7_noWords 46 = .ok (.iconst 0, 1) := by decide +kernel
theorem dX7_noWords_47 : decode cX7_noWords 47 = .ok (.goto 4, 3) := by decide +kernel
theorem dX7_noWords_50 : decode cX7_noWords 50 = .ok (.iconst 3, 1) := by decide +kernel
theorem dX7_noWords_51 : decode cX7_noWords 51 = .ok (.ireturn, 1) := by decide +kernel
theorem dX7_asks_0 : decode cX7_asks 0 = .ok (.aload_n 0, 1) := by decide +kernel
theorem dX7_asks_1 : decode cX7_asks 1 = .ok (.aload_n 0, 1) := by decide +kernel
theorem dX7_asks_2 : decode cX7_asks 2 = .ok (.iload_n 1, 1) := by decide +kernel
theorem dX7_asks_3 : decode cX7_asks 3 = .ok (.invokestatic 57, 3) := by decide +kernel
theorem dX7_asks_6 : decode cX7_asks 6 = .ok (.ifCond .eq 14, 3) := by decide +kernel
theorem dX7_asks_9 : decode cX7_asks 9 = .ok (.iload_n 2, 1) := by decide +kernel
theorem dX7_asks_10 : decode cX7_asks 10 = .ok (.invokestatic 126, 3) := by decide +kernel
theorem dX7_asks_13 : decode cX7_asks 13 = .ok (.ifCond .eq 7, 3) := by decide +kernel
theorem dX7_asks_16 : decode cX7_asks 16 = .ok (.iconst 1, 1) := by decide +kernel
theorem dX7_asks_17 : decode cX7_asks 17 = .ok (.goto 4, 3) := by decide +kernel
theorem dX7_asks_20 : decode cX7_asks 20 = .ok (.iconst 0, 1) := by decide +kernel
theorem dX7_asks_21 : decode cX7_asks 21 = .ok (.iload_n 1, 1) := by decide +kernel
theorem dX7_asks_22 : decode cX7_asks 22 = .ok (.iload_n 3, 1) := by decide +kernel
theorem dX7_asks_23 : decode cX7_asks 23 = .ok (.iload 4, 2) := by decide +kernel
theorem dX7_asks_25 : decode cX7_asks 25 = .ok (.invokevirtual 129, 3) := by decide +kernel
theorem dX7_asks_28 : decode cX7_asks 28 = .ok (.invokevirtual 73, 3) := by decide +kernel
theorem dX7_asks_31 : decode cX7_asks 31 = .ok (.ifCond .eq 5, 3) := by decide +kernel
theorem dX7_asks_34 : decode cX7_asks 34 = .ok (.iconst 0, 1) := by decide +kernel
theorem dX7_asks_35 : decode cX7_asks 35 = .ok (.ireturn, 1) := by decide +kernel
theorem dX7_asks_36 : decode cX7_asks 36 = .ok (.aload_n 0, 1) := by decide +kernel
theorem dX7_asks_37 : decode cX7_asks 37 = .ok (.iload_n 1, 1) := by decide +kernel
theorem dX7_asks_38 : decode cX7_asks 38 = .ok (.iload_n 2, 1) := by decide +kernel
theorem dX7_asks_39 : decode cX7_asks 39 = .ok (.aload_n 0, 1) := by decide +kernel
theorem dX7_asks_40 : decode cX7_asks 40 = .ok (.getfield 17, 3) := by decide +kernel
theorem dX7_asks_43 : decode cX7_asks 43 = .ok (.iload_n 3, 1) := by decide +kernel
theorem dX7_asks_44 : decode cX7_asks 44 = .ok (.iaload, 1) := by decide +kernel
theorem dX7_asks_45 : decode cX7_asks 45 = .ok (.aload_n 0, 1) := by decide +kernel
theorem dX7_asks_46 : decode cX7_asks 46 = .ok (.getfield 20, 3) := by decide +kernel
theorem dX7_asks_49 : decode cX7_asks 49 = .ok (.iload_n 3, 1) := by decide +kernel
theorem dX7_asks_50 : decode cX7_asks 50 = .ok (.iaload, 1) := by decide +kernel
theorem dX7_asks_51 : decode cX7_asks 51 = .ok (.aload_n 0, 1) := by decide +kernel
theorem dX7_asks_52 : decode cX7_asks 52 = .ok (.iload_n 3, 1) := by decide +kernel
theorem dX7_asks_53 : decode cX7_asks 53 = .ok (.invokevirtual 133, 3) := by decide +kernel
theorem dX7_asks_56 : decode cX7_asks 56 = .ok (.aload_n 0, 1) := by decide +kernel
theorem dX7_asks_57 : decode cX7_asks 57 = .ok (.getfield 17, 3) := by decide +kernel
theorem dX7_asks_60 : decode cX7_asks 60 = .ok (.iload 4, 2) := by decide +kernel
theorem dX7_asks_62 : decode cX7_asks 62 = .ok (.iaload, 1) := by decide +kernel
theorem dX7_asks_63 : decode cX7_asks 63 = .ok (.aload_n 0, 1) := by decide +kernel
theorem dX7_asks_64 : decode cX7_asks 64 = .ok (.getfield 20, 3) := by decide +kernel
theorem dX7_asks_67 : decode cX7_asks 67 = .ok (.iload 4, 2) := by decide +kernel
theorem dX7_asks_69 : decode cX7_asks 69 = .ok (.iaload, 1) := by decide +kernel
theorem dX7_asks_70 : decode cX7_asks 70 = .ok (.aload_n 0, 1) := by decide +kernel
theorem dX7_asks_71 : decode cX7_asks 71 = .ok (.iload 4, 2) := by decide +kernel
theorem dX7_asks_73 : decode cX7_asks 73 = .ok (.invokevirtual 133, 3) := by decide +kernel
theorem dX7_asks_76 : decode cX7_asks 76 = .ok (.invokevirtual 137, 3) := by decide +kernel
theorem dX7_asks_79 : decode cX7_asks 79 = .ok (.ireturn, 1) := by decide +kernel
theorem dX7_asksRows_0 : decode cX7_asksRows 0 = .ok (.aload_n 0, 1) := by decide +kernel
theorem dX7_asksRows_1 : decode cX7_asksRows 1 = .ok (.iload_n 1, 1) := by decide +kernel
theorem dX7_asksRows_2 : decode cX7_asksRows 2 = .ok (.invokestatic 57, 3) := by decide +kernel
theorem dX7_asksRows_5 : decode cX7_asksRows 5 = .ok (.ifCond .eq 10, 3) := by decide +kernel
theorem dX7_asksRows_8 : decode cX7_asksRows 8 = .ok (.iload_n 2, 1) := by decide +kernel
theorem dX7_asksRows_9 : decode cX7_asksRows 9 = .ok (.invokestatic 126, 3) := by decide +kernel
theorem dX7_asksRows_12 : decode cX7_asksRows 12 = .ok (.ifCond .ne 7, 3) := by decide +kernel
theorem dX7_asksRows_15 : decode cX7_asksRows 15 = .ok (.iconst 1, 1) := by decide +kernel
theorem dX7_asksRows_16 : decode cX7_asksRows 16 = .ok (.goto 23, 3) := by decide +kernel
theorem dX7_asksRows_19 : decode cX7_asksRows 19 = .ok (.iload_n 3, 1) := by decide +kernel
theorem dX7_asksRows_20 : decode cX7_asksRows 20 = .ok (.invokestatic 61, 3) := by decide +kernel
theorem dX7_asksRows_23 : decode cX7_asksRows 23 = .ok (.ifCond .eq 15, 3) := by decide +kernel
theorem dX7_asksRows_26 : decode cX7_asksRows 26 = .ok (.iload 4, 2) := by decide +kernel
theorem dX7_asksRows_28 : decode cX7_asksRows 28 = .ok (.invokestatic 61, 3) := by decide +kernel
theorem dX7_asksRows_31 : decode cX7_asksRows 31 = .ok (.ifCond .eq 7, 3) := by decide +kernel
theorem dX7_asksRows_34 : decode cX7_asksRows 34 = .ok (.iconst 0, 1) := by decide +kernel
theorem dX7_asksRows_35 : decode cX7_asksRows 35 = .ok (.goto 4, 3) := by decide +kernel
theorem dX7_asksRows_38 : decode cX7_asksRows 38 = .ok (.iconst 2, 1) := by decide +kernel
theorem dX7_asksRows_39 : decode cX7_asksRows 39 = .ok (.invokevirtual 73, 3) := by decide +kernel
theorem dX7_asksRows_42 : decode cX7_asksRows 42 = .ok (.ifCond .eq 5, 3) := by decide +kernel
theorem dX7_asksRows_45 : decode cX7_asksRows 45 = .ok (.iconst 0, 1) := by decide +kernel
theorem dX7_asksRows_46 : decode cX7_asksRows 46 = .ok (.ireturn, 1) := by decide +kernel
theorem dX7_asksRows_47 : decode cX7_asksRows 47 = .ok (.aload_n 0, 1) := by decide +kernel
theorem dX7_asksRows_48 : decode cX7_asksRows 48 = .ok (.iload_n 1, 1) := by decide +kernel
theorem dX7_asksRows_49 : decode cX7_asksRows 49 = .ok (.iload_n 2, 1) := by decide +kernel
theorem dX7_asksRows_50 : decode cX7_asksRows 50 = .ok (.iload_n 3, 1) := by decide +kernel
theorem dX7_asksRows_51 : decode cX7_asksRows 51 = .ok (.iconst 0, 1) := by decide +kernel
theorem dX7_asksRows_52 : decode cX7_asksRows 52 = .ok (.aload_n 0, 1) := by decide +kernel
theorem dX7_asksRows_53 : decode cX7_asksRows 53 = .ok (.iload_n 1, 1) := by decide +kernel
theorem dX7_asksRows_54 : decode cX7_asksRows 54 = .ok (.iload_n 3, 1) := by decide +kernel
theorem dX7_asksRows_55 : decode cX7_asksRows 55 = .ok (.invokevirtual 69, 3) := by decide +kernel
theorem dX7_asksRows_58 : decode cX7_asksRows 58 = .ok (.iload 4, 2) := by decide +kernel
theorem dX7_asksRows_60 : decode cX7_asksRows 60 = .ok (.iconst 0, 1) := by decide +kernel
theorem dX7_asksRows_61 : decode cX7_asksRows 61 = .ok (.aload_n 0, 1) := by decide +kernel
theorem dX7_asksRows_62 : decode cX7_asksRows 62 = .ok (.iload_n 1, 1) := by decide +kernel
theorem dX7_asksRows_63 : decode cX7_asksRows 63 = .ok (.iload 4, 2) := by decide +kernel
theorem dX7_asksRows_65 : decode cX7_asksRows 65 = .ok (.invokevirtual 69, 3) := by decide +kernel
theorem dX7_asksRows_68 : decode cX7_asksRows 68 = .ok (.invokevirtual 137, 3) := by decide +kernel
theorem dX7_asksRows_71 : decode cX7_asksRows 71 = .ok (.ireturn, 1) := by decide +kernel
theorem dX7_refused_0 : decode cX7_refused 0 = .ok (.aload_n 0, 1) := by decide +kernel
theorem dX7_refused_1 : decode cX7_refused 1 = .ok (.iload_n 1, 1) := by decide +kernel
theorem dX7_refused_2 : decode cX7_refused 2 = .ok (.invokestatic 57, 3) := by decide +kernel
theorem dX7_refused_5 : decode cX7_refused 5 = .ok (.ifCond .eq 10, 3) := by decide +kernel
theorem dX7_refused_8 : decode cX7_refused 8 = .ok (.iload_n 2, 1) := by decide +kernel
theorem dX7_refused_9 : decode cX7_refused 9 = .ok (.invokestatic 126, 3) := by decide +kernel
theorem dX7_refused_12 : decode cX7_refused 12 = .ok (.ifCond .ne 7, 3) := by decide +kernel
theorem dX7_refused_15 : decode cX7_refused 15 = .ok (.iconst 1, 1) := by decide +kernel
theorem dX7_refused_16 : decode cX7_refused 16 = .ok (.goto 15, 3) := by decide +kernel
theorem dX7_refused_19 : decode cX7_refused 19 = .ok (.iload_n 3, 1) := by decide +kernel
theorem dX7_refused_20 : decode cX7_refused 20 = .ok (.invokestatic 61, 3) := by decide +kernel
theorem dX7_refused_23 : decode cX7_refused 23 = .ok (.ifCond .eq 7, 3) := by decide +kernel
theorem dX7_refused_26 : decode cX7_refused 26 = .ok (.iconst 0, 1) := by decide +kernel
theorem dX7_refused_27 : decode cX7_refused 27 = .ok (.goto 4, 3) := by decide +kernel
theorem dX7_refused_30 : decode cX7_refused 30 = .ok (.iconst 2, 1) := by decide +kernel
theorem dX7_refused_31 : decode cX7_refused 31 = .ok (.invokevirtual 73, 3) := by decide +kernel
theorem dX7_refused_34 : decode cX7_refused 34 = .ok (.ifCond .eq 5, 3) := by decide +kernel
theorem dX7_refused_37 : decode cX7_refused 37 = .ok (.iconst 0, 1) := by decide +kernel
theorem dX7_refused_38 : decode cX7_refused 38 = .ok (.ireturn, 1) := by decide +kernel
theorem dX7_refused_39 : decode cX7_refused 39 = .ok (.iload 4, 2) := by decide +kernel
theorem dX7_refused_41 : decode cX7_refused 41 = .ok (.iload 5, 2) := by decide +kernel
theorem dX7_refused_43 : decode cX7_refused 43 = .ok (.if_icmp .le 7, 3) := by decide +kernel
theorem dX7_refused_46 : decode cX7_refused 46 = .ok (.iconst 1, 1) := by decide +kernel
theorem dX7_refused_47 : decode cX7_refused 47 = .ok (.goto 4, 3) := by decide +kernel
theorem dX7_refused_50 : decode cX7_refused 50 = .ok (.iconst 0, 1) := by decide +kernel
theorem dX7_refused_51 : decode cX7_refused 51 = .ok (.istore 6, 2) := by decide +kernel
theorem dX7_refused_53 : decode cX7_refused 53 = .ok (.iload 4, 2) := by decide +kernel
theorem dX7_refused_55 : decode cX7_refused 55 = .ok (.ifCond .lt 14, 3) := by decide +kernel
theorem dX7_refused_58 : decode cX7_refused 58 = .ok (.iload 5, 2) := by decide +kernel
theorem dX7_refused_60 : decode cX7_refused 60 = .ok (.aload_n 0, 1) := by decide +kernel
theorem dX7_refused_61 : decode cX7_refused 61 = .ok (.iload_n 1, 1) := by decide +kernel
theorem dX7_refused_62 : decode cX7_refused 62 = .ok (.iload_n 3, 1) := by decide +kernel
theorem dX7_refused_63 : decode cX7_refused 63 = .ok (.invokevirtual 69, 3) := by decide +kernel
theorem dX7_refused_66 : decode cX7_refused 66 = .ok (.if_icmp .le 7, 3) := by decide +kernel
theorem dX7_refused_69 : decode cX7_refused 69 = .ok (.iconst 1, 1) := by decide +kernel
theorem dX7_refused_70 : decode cX7_refused 70 = .ok (.goto 4, 3) := by decide +kernel
theorem dX7_refused_73 : decode cX7_refused 73 = .ok (.iconst 0, 1) := by decide +kernel
theorem dX7_refused_74 : decode cX7_refused 74 = .ok (.istore 7, 2) := by decide +kernel
theorem dX7_refused_76 : decode cX7_refused 76 = .ok (.iload 6, 2) := by decide +kernel
theorem dX7_refused_78 : decode cX7_refused 78 = .ok (.ifCond .eq 12, 3) := by decide +kernel
theorem dX7_refused_81 : decode cX7_refused 81 = .ok (.iload 7, 2) := by decide +kernel
theorem dX7_refused_83 : decode cX7_refused 83 = .ok (.ifCond .eq 7, 3) := by decide +kernel
theorem dX7_refused_86 : decode cX7_refused 86 = .ok (.iconst 3, 1) := by decide +kernel
theorem dX7_refused_87 : decode cX7_refused 87 = .ok (.goto 22, 3) := by decide +kernel
theorem dX7_refused_90 : decode cX7_refused 90 = .ok (.iload 7, 2) := by decide +kernel
theorem dX7_refused_92 : decode cX7_refused 92 = .ok (.ifCond .eq 7, 3) := by decide +kernel
theorem dX7_refused_95 : decode cX7_refused 95 = .ok (.iconst 2, 1) := by decide +kernel
theorem dX7_refused_96 : decode cX7_refused 96 = .ok (.goto 13, 3) := by decide +kernel
theorem dX7_refused_99 : decode cX7_refused 99 = .ok (.iload 6, 2) := by decide +kernel
theorem dX7_refused_101 : decode cX7_refused 101 = .ok (.ifCond .eq 7, 3) := by decide +kernel
theorem dX7_refused_104 : decode cX7_refused 104 = .ok (.iconst 1, 1) := by decide +kernel
theorem dX7_refused_105 : decode cX7_refused 105 = .ok (.goto 4, 3) := by decide +kernel
theorem dX7_refused_108 : decode cX7_refused 108 = .ok (.iconst 0, 1) := by decide +kernel
theorem dX7_refused_109 : decode cX7_refused 109 = .ok (.ireturn, 1) := by decide +kernel
theorem dX7_common_0 : decode cX7_common 0 = .ok (.aload_n 0, 1) := by decide +kernel
theorem dX7_common_1 : decode cX7_common 1 = .ok (.aload_n 0, 1) := by decide +kernel
theorem dX7_common_2 : decode cX7_common 2 = .ok (.iload_n 1, 1) := by decide +kernel
theorem dX7_common_3 : decode cX7_common 3 = .ok (.invokestatic 57, 3) := by decide +kernel
theorem dX7_common_6 : decode cX7_common 6 = .ok (.iload_n 1, 1) := by decide +kernel
theorem dX7_common_7 : decode cX7_common 7 = .ok (.iload_n 2, 1) := by decide +kernel
theorem dX7_common_8 : decode cX7_common 8 = .ok (.iload_n 3, 1) := by decide +kernel
theorem dX7_common_9 : decode cX7_common 9 = .ok (.invokevirtual 129, 3) := by decide +kernel
theorem dX7_common_12 : decode cX7_common 12 = .ok (.invokevirtual 73, 3) := by decide +kernel
theorem dX7_common_15 : decode cX7_common 15 = .ok (.ifCond .eq 5, 3) := by decide +kernel
theorem dX7_common_18 : decode cX7_common 18 = .ok (.iconst 0, 1) := by decide +kernel
theorem dX7_common_19 : decode cX7_common 19 = .ok (.ireturn, 1) := by decide +kernel
theorem dX7_common_20 : decode cX7_common 20 = .ok (.aload_n 0, 1) := by decide +kernel
theorem dX7_common_21 : decode cX7_common 21 = .ok (.iload_n 1, 1) := by decide +kernel
theorem dX7_common_22 : decode cX7_common 22 = .ok (.aload_n 0, 1) := by decide +kernel
theorem dX7_common_23 : decode cX7_common 23 = .ok (.getfield 17, 3) := by decide +kernel
theorem dX7_common_26 : decode cX7_common 26 = .ok (.iload_n 2, 1) := by decide +kernel
theorem dX7_common_27 : decode cX7_common 27 = .ok (.iaload, 1) := by decide +kernel
theorem dX7_common_28 : decode cX7_common 28 = .ok (.aload_n 0, 1) := by decide +kernel
theorem dX7_common_29 : decode cX7_common 29 = .ok (.getfield 20, 3) := by decide +kernel
theorem dX7_common_32 : decode cX7_common 32 = .ok (.iload_n 2, 1) := by decide +kernel
theorem dX7_common_33 : decode cX7_common 33 = .ok (.iaload, 1) := by decide +kernel
theorem dX7_common_34 : decode cX7_common 34 = .ok (.aload_n 0, 1) := by decide +kernel
theorem dX7_common_35 : decode cX7_common 35 = .ok (.iload_n 2, 1) := by decide +kernel
theorem dX7_common_36 : decode cX7_common 36 = .ok (.invokevirtual 133, 3) := by decide +kernel
theorem dX7_common_39 : decode cX7_common 39 = .ok (.aload_n 0, 1) := by decide +kernel
theorem dX7_common_40 : decode cX7_common 40 = .ok (.getfield 17, 3) := by decide +kernel
theorem dX7_common_43 : decode cX7_common 43 = .ok (.iload_n 3, 1) := by decide +kernel
theorem dX7_common_44 : decode cX7_common 44 = .ok (.iaload, 1) := by decide +kernel
theorem dX7_common_45 : decode cX7_common 45 = .ok (.aload_n 0, 1) := by decide +kernel
theorem dX7_common_46 : decode cX7_common 46 = .ok (.getfield 20, 3) := by decide +kernel
theorem dX7_common_49 : decode cX7_common 49 = .ok (.iload_n 3, 1) := by decide +kernel
theorem dX7_common_50 : decode cX7_common 50 = .ok (.iaload, 1) := by decide +kernel
theorem dX7_common_51 : decode cX7_common 51 = .ok (.aload_n 0, 1) := by decide +kernel
theorem dX7_common_52 : decode cX7_common 52 = .ok (.iload_n 3, 1) := by decide +kernel
theorem dX7_common_53 : decode cX7_common 53 = .ok (.invokevirtual 133, 3) := by decide +kernel
theorem dX7_common_56 : decode cX7_common 56 = .ok (.invokevirtual 114, 3) := by decide +kernel
theorem dX7_common_59 : decode cX7_common 59 = .ok (.ireturn, 1) := by decide +kernel
theorem dX7_spans_0 : decode cX7_spans 0 = .ok (.aload_n 0, 1) := by decide +kernel
theorem dX7_spans_1 : decode cX7_spans 1 = .ok (.iload_n 1, 1) := by decide +kernel
theorem dX7_spans_2 : decode cX7_spans 2 = .ok (.iload_n 2, 1) := by decide +kernel
theorem dX7_spans_3 : decode cX7_spans 3 = .ok (.aload_n 0, 1) := by decide +kernel
theorem dX7_spans_4 : decode cX7_spans 4 = .ok (.getfield 17, 3) := by decide +kernel
theorem dX7_spans_7 : decode cX7_spans 7 = .ok (.iload_n 3, 1) := by decide +kernel
theorem dX7_spans_8 : decode cX7_spans 8 = .ok (.iaload, 1) := by decide +kernel
theorem dX7_spans_9 : decode cX7_spans 9 = .ok (.aload_n 0, 1) := by decide +kernel
theorem dX7_spans_10 : decode cX7_spans 10 = .ok (.getfield 20, 3) := by decide +kernel
theorem dX7_spans_13 : decode cX7_spans 13 = .ok (.iload_n 3, 1) := by decide +kernel
theorem dX7_spans_14 : decode cX7_spans 14 = .ok (.iaload, 1) := by decide +kernel
theorem dX7_spans_15 : decode cX7_spans 15 = .ok (.aload_n 0, 1) := by decide +kernel
theorem dX7_spans_16 : decode cX7_spans 16 = .ok (.iload_n 3, 1) := by decide +kernel
theorem dX7_spans_17 : decode cX7_spans 17 = .ok (.invokevirtual 133, 3) := by decide +kernel
theorem dX7_spans_20 : decode cX7_spans 20 = .ok (.aload_n 0, 1) := by decide +kernel
theorem dX7_spans_21 : decode cX7_spans 21 = .ok (.getfield 17, 3) := by decide +kernel
theorem dX7_spans_24 : decode cX7_spans 24 = .ok (.iload 4, 2) := by decide +kernel
theorem dX7_spans_26 : decode cX7_spans 26 = .ok (.iaload, 1) := by decide +kernel
theorem dX7_spans_27 : decode cX7_spans 27 = .ok (.aload_n 0, 1) := by decide +kernel
theorem dX7_spans_28 : decode cX7_spans 28 = .ok (.getfield 20, 3) := by decide +kernel
theorem dX7_spans_31 : decode cX7_spans 31 = .ok (.iload 4, 2) := by decide +kernel
theorem dX7_spans_33 : decode cX7_spans 33 = .ok (.iaload, 1) := by decide +kernel
theorem dX7_spans_34 : decode cX7_spans 34 = .ok (.aload_n 0, 1) := by decide +kernel
theorem dX7_spans_35 : decode cX7_spans 35 = .ok (.iload 4, 2) := by decide +kernel
theorem dX7_spans_37 : decode cX7_spans 37 = .ok (.invokevirtual 133, 3) := by decide +kernel
theorem dX7_spans_40 : decode cX7_spans 40 = .ok (.invokevirtual 122, 3) := by decide +kernel
theorem dX7_spans_43 : decode cX7_spans 43 = .ok (.ireturn, 1) := by decide +kernel
theorem dX7_rank_0 : decode cX7_rank 0 = .ok (.aload_n 0, 1) := by decide +kernel
theorem dX7_rank_1 : decode cX7_rank 1 = .ok (.aload_n 0, 1) := by decide +kernel
theorem dX7_rank_2 : decode cX7_rank 2 = .ok (.iload_n 1, 1) := by decide +kernel
theorem dX7_rank_3 : decode cX7_rank 3 = .ok (.invokestatic 57, 3) := by decide +kernel
theorem dX7_rank_6 : decode cX7_rank 6 = .ok (.ifCond .eq 14, 3) := by decide +kernel
theorem dX7_rank_9 : decode cX7_rank 9 = .ok (.iload_n 2, 1) := by decide +kernel
theorem dX7_rank_10 : decode cX7_rank 10 = .ok (.invokestatic 140, 3) := by decide +kernel
theorem dX7_rank_13 : decode cX7_rank 13 = .ok (.ifCond .eq 7, 3) := by decide +kernel
theorem dX7_rank_16 : decode cX7_rank 16 = .ok (.iconst 1, 1) := by decide +kernel
theorem dX7_rank_17 : decode cX7_rank 17 = .ok (.goto 4, 3) := by decide +kernel
theorem dX7_rank_20 : decode cX7_rank 20 = .ok (.iconst 0, 1) := by decide +kernel
theorem dX7_rank_21 : decode cX7_rank 21 = .ok (.iload_n 1, 1) := by decide +kernel
theorem dX7_rank_22 : decode cX7_rank 22 = .ok (.iload_n 3, 1) := by decide +kernel
theorem dX7_rank_23 : decode cX7_rank 23 = .ok (.iload_n 3, 1) := by decide +kernel
theorem dX7_rank_24 : decode cX7_rank 24 = .ok (.invokevirtual 129, 3) := by decide +kernel
theorem dX7_rank_27 : decode cX7_rank 27 = .ok (.invokevirtual 73, 3) := by decide +kernel
theorem dX7_rank_30 : decode cX7_rank 30 = .ok (.ifCond .eq 5, 3) := by decide +kernel
theorem dX7_rank_33 : decode cX7_rank 33 = .ok (.iconst 0, 1) := by decide +kernel
theorem dX7_rank_34 : decode cX7_rank 34 = .ok (.ireturn, 1) := by decide +kernel
theorem dX7_rank_35 : decode cX7_rank 35 = .ok (.iconst 0, 1) := by decide +kernel
theorem dX7_rank_36 : decode cX7_rank 36 = .ok (.istore 4, 2) := by decide +kernel
theorem dX7_rank_38 : decode cX7_rank 38 = .ok (.iconst 0, 1) := by decide +kernel
theorem dX7_rank_39 : decode cX7_rank 39 = .ok (.istore 5, 2) := by decide +kernel
theorem dX7_rank_41 : decode cX7_rank 41 = .ok (.iload 5, 2) := by decide +kernel
theorem dX7_rank_43 : decode cX7_rank 43 = .ok (.bipush 12, 2) := by decide +kernel
theorem dX7_rank_45 : decode cX7_rank 45 = .ok (.if_icmp .ge 41, 3) := by decide +kernel
theorem dX7_rank_48 : decode cX7_rank 48 = .ok (.iload 4, 2) := by decide +kernel
theorem dX7_rank_50 : decode cX7_rank 50 = .ok (.aload_n 0, 1) := by decide +kernel
theorem dX7_rank_51 : decode cX7_rank 51 = .ok (.iload_n 1, 1) := by decide +kernel
theorem dX7_rank_52 : decode cX7_rank 52 = .ok (.iload 5, 2) := by decide +kernel
theorem dX7_rank_54 : decode cX7_rank 54 = .ok (.invokevirtual 110, 3) := by decide +kernel
theorem dX7_rank_57 : decode cX7_rank 57 = .ok (.ifCond .eq 19, 3) := by decide +kernel
theorem dX7_rank_60 : decode cX7_rank 60 = .ok (.aload_n 0, 1) := by decide +kernel
theorem dX7_rank_61 : decode cX7_rank 61 = .ok (.iload_n 1, 1) := by decide +kernel
theorem dX7_rank_62 : decode cX7_rank 62 = .ok (.iload_n 2, 1) := by decide +kernel
theorem dX7_rank_63 : decode cX7_rank 63 = .ok (.iload 5, 2) := by decide +kernel
theorem dX7_rank_65 : decode cX7_rank 65 = .ok (.iload_n 3, 1) := by decide +kernel
theorem dX7_rank_66 : decode cX7_rank 66 = .ok (.invokevirtual 143, 3) := by decide +kernel
theorem dX7_rank_69 : decode cX7_rank 69 = .ok (.ifCond .ge 7, 3) := by decide +kernel
theorem dX7_rank_72 : decode cX7_rank 72 = .ok (.iconst 1, 1) := by decide +kernel
theorem dX7_rank_73 : decode cX7_rank 73 = .ok (.goto 4, 3) := by decide +kernel
theorem dX7_rank_76 : decode cX7_rank 76 = .ok (.iconst 0, 1) := by decide +kernel
theorem dX7_rank_77 : decode cX7_rank 77 = .ok (.iadd, 1) := by decide +kernel
theorem dX7_rank_78 : decode cX7_rank 78 = .ok (.istore 4, 2) := by decide +kernel
theorem dX7_rank_80 : decode cX7_rank 80 = .ok (.iinc 5 1, 3) := by decide +kernel
theorem dX7_rank_83 : decode cX7_rank 83 = .ok (.goto (-42), 3) := by decide +kernel
theorem dX7_rank_86 : decode cX7_rank 86 = .ok (.iload 4, 2) := by decide +kernel
theorem dX7_rank_88 : decode cX7_rank 88 = .ok (.ireturn, 1) := by decide +kernel
theorem dX7_sort_0 : decode cX7_sort 0 = .ok (.aload_n 0, 1) := by decide +kernel
theorem dX7_sort_1 : decode cX7_sort 1 = .ok (.iload_n 1, 1) := by decide +kernel
theorem dX7_sort_2 : decode cX7_sort 2 = .ok (.invokestatic 57, 3) := by decide +kernel
theorem dX7_sort_5 : decode cX7_sort 5 = .ok (.ifCond .eq 14, 3) := by decide +kernel
theorem dX7_sort_8 : decode cX7_sort 8 = .ok (.iload_n 2, 1) := by decide +kernel
theorem dX7_sort_9 : decode cX7_sort 9 = .ok (.invokestatic 140, 3) := by decide +kernel
theorem dX7_sort_12 : decode cX7_sort 12 = .ok (.ifCond .eq 7, 3) := by decide +kernel
theorem dX7_sort_15 : decode cX7_sort 15 = .ok (.iconst 0, 1) := by decide +kernel
theorem dX7_sort_16 : decode cX7_sort 16 = .ok (.goto 4, 3) := by decide +kernel
theorem dX7_sort_19 : decode cX7_sort 19 = .ok (.iconst 1, 1) := by decide +kernel
theorem dX7_sort_20 : decode cX7_sort 20 = .ok (.invokevirtual 73, 3) := by decide +kernel
theorem dX7_sort_23 : decode cX7_sort 23 = .ok (.ifCond .eq 5, 3) := by decide +kernel
theorem dX7_sort_26 : decode cX7_sort 26 = .ok (.iconst 0, 1) := by decide +kernel
theorem dX7_sort_27 : decode cX7_sort 27 = .ok (.ireturn, 1) := by decide +kernel
theorem dX7_sort_28 : decode cX7_sort 28 = .ok (.aload_n 0, 1) := by decide +kernel
theorem dX7_sort_29 : decode cX7_sort 29 = .ok (.iconst 0, 1) := by decide +kernel
theorem dX7_sort_30 : decode cX7_sort 30 = .ok (.putfield 147, 3) := by decide +kernel
theorem dX7_sort_33 : decode cX7_sort 33 = .ok (.iconst 0, 1) := by decide +kernel
theorem dX7_sort_34 : decode cX7_sort 34 = .ok (.istore_n 3, 1) := by decide +kernel
theorem dX7_sort_35 : decode cX7_sort 35 = .ok (.iload_n 3, 1) := by decide +kernel
theorem dX7_sort_36 : decode cX7_sort 36 = .ok (.bipush 12, 2) := by decide +kernel
theorem dX7_sort_38 : decode cX7_sort 38 = .ok (.if_icmp .ge 109, 3) := by decide +kernel
theorem dX7_sort_41 : decode cX7_sort 41 = .ok (.aload_n 0, 1) := by decide +kernel
theorem dX7_sort_42 : decode cX7_sort 42 = .ok (.iload_n 1, 1) := by decide +kernel
theorem dX7_sort_43 : decode cX7_sort 43 = .ok (.iload_n 3, 1) := by decide +kernel
theorem dX7_sort_44 : decode cX7_sort 44 = .ok (.invokevirtual 110, 3) := by decide +kernel
theorem dX7_sort_47 : decode cX7_sort 47 = .ok (.ifCond .ne 6, 3) := by decide +kernel
theorem dX7_sort_50 : decode cX7_sort 50 = .ok (.goto 91, 3) := by decide +kernel
theorem dX7_sort_53 : decode cX7_sort 53 = .ok (.iconst 0, 1) := by decide +kernel
theorem dX7_sort_54 : decode cX7_sort 54 = .ok (.istore 4, 2) := by decide +kernel
theorem dX7_sort_56 : decode cX7_sort 56 = .ok (.iconst 0, 1) := by decide +kernel
theorem dX7_sort_57 : decode cX7_sort 57 = .ok (.istore 5, 2) := by decide +kernel
theorem dX7_sort_59 : decode cX7_sort 59 = .ok (.iload 5, 2) := by decide +kernel
theorem dX7_sort_61 : decode cX7_sort 61 = .ok (.bipush 12, 2) := by decide +kernel
theorem dX7_sort_63 : decode cX7_sort 63 = .ok (.if_icmp .ge 60, 3) := by decide +kernel
theorem dX7_sort_66 : decode cX7_sort 66 = .ok (.aload_n 0, 1) := by decide +kernel
theorem dX7_sort_67 : decode cX7_sort 67 = .ok (.iload_n 1, 1) := by decide +kernel
theorem dX7_sort_68 : decode cX7_sort 68 = .ok (.iload 5, 2) := by decide +kernel
theorem dX7_sort_70 : decode cX7_sort 70 = .ok (.invokevirtual 110, 3) := by decide +kernel
theorem dX7_sort_73 : decode cX7_sort 73 = .ok (.ifCond .eq 15, 3) := by decide +kernel
theorem dX7_sort_76 : decode cX7_sort 76 = .ok (.aload_n 0, 1) := by decide +kernel
theorem dX7_sort_77 : decode cX7_sort 77 = .ok (.iload_n 1, 1) := by decide +kernel
theorem dX7_sort_78 : decode cX7_sort 78 = .ok (.iload_n 2, 1) := by decide +kernel
theorem dX7_sort_79 : decode cX7_sort 79 = .ok (.iload 5, 2) := by decide +kernel
theorem dX7_sort_81 : decode cX7_sort 81 = .ok (.iload_n 3, 1) := by decide +kernel
theorem dX7_sort_82 : decode cX7_sort 82 = .ok (.invokevirtual 143, 3) := by decide +kernel
theorem dX7_sort_85 : decode cX7_sort 85 = .ok (.goto 4, 3) := by decide +kernel
theorem dX7_sort_88 : decode cX7_sort 88 = .ok (.iconst 1, 1) := by decide +kernel
theorem dX7_sort_89 : decode cX7_sort 89 = .ok (.istore 6, 2) := by decide +kernel
theorem dX7_sort_91 : decode cX7_sort 91 = .ok (.iload 4, 2) := by decide +kernel
theorem dX7_sort_93 : decode cX7_sort 93 = .ok (.iload 6, 2) := by decide +kernel
theorem dX7_sort_95 : decode cX7_sort 95 = .ok (.ifCond .lt 14, 3) := by decide +kernel
theorem dX7_sort_98 : decode cX7_sort 98 = .ok (.iload 6, 2) := by decide +kernel
theorem dX7_sort_100 : decode cX7_sort 100 = .ok (.ifCond .ne 13, 3) := by decide +kernel
theorem dX7_sort_103 : decode cX7_sort 103 = .ok (.iload 5, 2) := by decide +kernel
theorem dX7_sort_105 : decode cX7_sort 105 = .ok (.iload_n 3, 1) := by decide +kernel
theorem dX7_sort_106 : decode cX7_sort 106 = .ok (.if_icmp .ge 7, 3) := by decide +kernel
theorem dX7_sort_109 : decode cX7_sort 109 = .ok (.iconst 1, 1) := by decide +kernel
theorem dX7_sort_110 : decode cX7_sort 110 = .ok (.goto 4, 3) := by decide +kernel
theorem dX7_sort_113 : decode cX7_sort 113 = .ok (.iconst 0, 1) := by decide +kernel
theorem dX7_sort_114 : decode cX7_sort 114 = .ok (.iadd, 1) := by decide +kernel
theorem dX7_sort_115 : decode cX7_sort 115 = .ok (.istore 4, 2) := by decide +kernel
theorem dX7_sort_117 : decode cX7_sort 117 = .ok (.iinc 5 1, 3) := by decide +kernel
theorem dX7_sort_120 : decode cX7_sort 120 = .ok (.goto (-61), 3) := by decide +kernel
theorem dX7_sort_123 : decode cX7_sort 123 = .ok (.aload_n 0, 1) := by decide +kernel
theorem dX7_sort_124 : decode cX7_sort 124 = .ok (.getfield 26, 3) := by decide +kernel
theorem dX7_sort_127 : decode cX7_sort 127 = .ok (.iload 4, 2) := by decide +kernel
theorem dX7_sort_129 : decode cX7_sort 129 = .ok (.iload_n 3, 1) := by decide +kernel
theorem dX7_sort_130 : decode cX7_sort 130 = .ok (.iastore, 1) := by decide +kernel
theorem dX7_sort_131 : decode cX7_sort 131 = .ok (.aload_n 0, 1) := by decide +kernel
theorem dX7_sort_132 : decode cX7_sort 132 = .ok (.dup, 1) := by decide +kernel
theorem dX7_sort_133 : decode cX7_sort 133 = .ok (.getfield 147, 3) := by decide +kernel
theorem dX7_sort_136 : decode cX7_sort 136 = .ok (.iconst 1, 1) := by decide +kernel
theorem dX7_sort_137 : decode cX7_sort 137 = .ok (.iadd, 1) := by decide +kernel
theorem dX7_sort_138 : decode cX7_sort 138 = .ok (.putfield 147, 3) := by decide +kernel
theorem dX7_sort_141 : decode cX7_sort 141 = .ok (.iinc 3 1, 3) := by decide +kernel
theorem dX7_sort_144 : decode cX7_sort 144 = .ok (.goto (-109), 3) := by decide +kernel
theorem dX7_sort_147 : decode cX7_sort 147 = .ok (.aload_n 0, 1) := by decide +kernel
theorem dX7_sort_148 : decode cX7_sort 148 = .ok (.getfield 147, 3) := by decide +kernel
theorem dX7_sort_151 : decode cX7_sort 151 = .ok (.ireturn, 1) := by decide +kernel
theorem dX7_sorted_0 : decode cX7_sorted 0 = .ok (.aload_n 0, 1) := by decide +kernel
theorem dX7_sorted_1 : decode cX7_sorted 1 = .ok (.iload_n 1, 1) := by decide +kernel
theorem dX7_sorted_2 : decode cX7_sorted 2 = .ok (.i2l, 1) := by decide +kernel
theorem dX7_sorted_3 : decode cX7_sorted 3 = .ok (.lconst 0, 1) := by decide +kernel
theorem dX7_sorted_4 : decode cX7_sorted 4 = .ok (.aload_n 0, 1) := by decide +kernel
theorem dX7_sorted_5 : decode cX7_sorted 5 = .ok (.getfield 147, 3) := by decide +kernel
theorem dX7_sorted_8 : decode cX7_sorted 8 = .ok (.iconst 1, 1) := by decide +kernel
theorem dX7_sorted_9 : decode cX7_sorted 9 = .ok (.isub, 1) := by decide +kernel
theorem dX7_sorted_10 : decode cX7_sorted 10 = .ok (.i2l, 1) := by decide +kernel
theorem dX7_sorted_11 : decode cX7_sorted 11 = .ok (.invokestatic 39, 3) := by decide +kernel
theorem dX7_sorted_14 : decode cX7_sorted 14 = .ok (.ifCond .eq 7, 3) := by decide +kernel
theorem dX7_sorted_17 : decode cX7_sorted 17 = .ok (.iconst 0, 1) := by decide +kernel
theorem dX7_sorted_18 : decode cX7_sorted 18 = .ok (.goto 4, 3) := by decide +kernel
theorem dX7_sorted_21 : decode cX7_sorted 21 = .ok (.iconst 1, 1) := by decide +kernel
theorem dX7_sorted_22 : decode cX7_sorted 22 = .ok (.invokevirtual 73, 3) := by decide +kernel
theorem dX7_sorted_25 : decode cX7_sorted 25 = .ok (.ifCond .eq 7, 3) := by decide +kernel
theorem dX7_sorted_28 : decode cX7_sorted 28 = .ok (.iconst 0, 1) := by decide +kernel
theorem dX7_sorted_29 : decode cX7_sorted 29 = .ok (.goto 9, 3) := by decide +kernel
theorem dX7_sorted_32 : decode cX7_sorted 32 = .ok (.aload_n 0, 1) := by decide +kernel
theorem dX7_sorted_33 : decode cX7_sorted 33 = .ok (.getfield 26, 3) := by decide +kernel
theorem dX7_sorted_36 : decode cX7_sorted 36 = .ok (.iload_n 1, 1) := by decide +kernel
theorem dX7_sorted_37 : decode cX7_sorted 37 = .ok (.iaload, 1) := by decide +kernel
theorem dX7_sorted_38 : decode cX7_sorted 38 = .ok (.ireturn, 1) := by decide +kernel
theorem dX7_noOrder_0 : decode cX7_noOrder 0 = .ok (.iload_n 1, 1) := by decide +kernel
theorem dX7_noOrder_1 : decode cX7_noOrder 1 = .ok (.invokestatic 57, 3) := by decide +kernel
theorem dX7_noOrder_4 : decode cX7_noOrder 4 = .ok (.ifCond .eq 10, 3) := by decide +kernel
theorem dX7_noOrder_7 : decode cX7_noOrder 7 = .ok (.iload_n 2, 1) := by decide +kernel
theorem dX7_noOrder_8 : decode cX7_noOrder 8 = .ok (.invokestatic 140, 3) := by decide +kernel
theorem dX7_noOrder_11 : decode cX7_noOrder 11 = .ok (.ifCond .ne 7, 3) := by decide +kernel
theorem dX7_noOrder_14 : decode cX7_noOrder 14 = .ok (.iconst 1, 1) := by decide +kernel
theorem dX7_noOrder_15 : decode cX7_noOrder 15 = .ok (.goto 15, 3) := by decide +kernel
theorem dX7_noOrder_18 : decode cX7_noOrder 18 = .ok (.iload_n 3, 1) := by decide +kernel
theorem dX7_noOrder_19 : decode cX7_noOrder 19 = .ok (.invokestatic 61, 3) := by decide +kernel
theorem dX7_noOrder_22 : decode cX7_noOrder 22 = .ok (.ifCond .eq 7, 3) := by decide +kernel
theorem dX7_noOrder_25 : decode cX7_noOrder 25 = .ok (.iconst 0, 1) := by decide +kernel
theorem dX7_noOrder_26 : decode cX7_noOrder 26 = .ok (.goto 4, 3) := by decide +kernel
theorem dX7_noOrder_29 : decode cX7_noOrder 29 = .ok (.iconst 2, 1) := by decide +kernel
theorem dX7_noOrder_30 : decode cX7_noOrder 30 = .ok (.ireturn, 1) := by decide +kernel
theorem dX7_endings_0 : decode cX7_endings 0 = .ok (.aload_n 0, 1) := by decide +kernel
theorem dX7_endings_1 : decode cX7_endings 1 = .ok (.iload_n 1, 1) := by decide +kernel
theorem dX7_endings_2 : decode cX7_endings 2 = .ok (.iload_n 2, 1) := by decide +kernel
theorem dX7_endings_3 : decode cX7_endings 3 = .ok (.iload_n 3, 1) := by decide +kernel
theorem dX7_endings_4 : decode cX7_endings 4 = .ok (.iload 5, 2) := by decide +kernel
theorem dX7_endings_6 : decode cX7_endings 6 = .ok (.iload 4, 2) := by decide +kernel
theorem dX7_endings_8 : decode cX7_endings 8 = .ok (.iload 5, 2) := by decide +kernel
theorem dX7_endings_10 : decode cX7_endings 10 = .ok (.isub, 1) := by decide +kernel
theorem dX7_endings_11 : decode cX7_endings 11 = .ok (.iload_n 3, 1) := by decide +kernel
theorem dX7_endings_12 : decode cX7_endings 12 = .ok (.iload 6, 2) := by decide +kernel
theorem dX7_endings_14 : decode cX7_endings 14 = .ok (.iload 4, 2) := by decide +kernel
theorem dX7_endings_16 : decode cX7_endings 16 = .ok (.iload 6, 2) := by decide +kernel
theorem dX7_endings_18 : decode cX7_endings 18 = .ok (.isub, 1) := by decide +kernel
theorem dX7_endings_19 : decode cX7_endings 19 = .ok (.invokevirtual 122, 3) := by decide +kernel
theorem dX7_endings_22 : decode cX7_endings 22 = .ok (.ireturn, 1) := by decide +kernel
theorem dX7_ending_0 : decode cX7_ending 0 = .ok (.aload_n 0, 1) := by decide +kernel
theorem dX7_ending_1 : decode cX7_ending 1 = .ok (.iload_n 1, 1) := by decide +kernel
theorem dX7_ending_2 : decode cX7_ending 2 = .ok (.iload_n 2, 1) := by decide +kernel
theorem dX7_ending_3 : decode cX7_ending 3 = .ok (.iload_n 3, 1) := by decide +kernel
theorem dX7_ending_4 : decode cX7_ending 4 = .ok (.invokevirtual 150, 3) := by decide +kernel
theorem dX7_ending_7 : decode cX7_ending 7 = .ok (.istore 5, 2) := by decide +kernel
theorem dX7_ending_9 : decode cX7_ending 9 = .ok (.aload_n 0, 1) := by decide +kernel
theorem dX7_ending_10 : decode cX7_ending 10 = .ok (.iload 5, 2) := by decide +kernel
theorem dX7_ending_12 : decode cX7_ending 12 = .ok (.ifCond .le 8, 3) := by decide +kernel
theorem dX7_ending_15 : decode cX7_ending 15 = .ok (.iload 5, 2) := by decide +kernel
theorem dX7_ending_17 : decode cX7_ending 17 = .ok (.goto 27, 3) := by decide +kernel
theorem dX7_ending_20 : decode cX7_ending 20 = .ok (.iload 4, 2) := by decide +kernel
theorem dX7_ending_22 : decode cX7_ending 22 = .ok (.i2l, 1) := by decide +kernel
theorem dX7_ending_23 : decode cX7_ending 23 = .ok (.lconst 0, 1) := by decide +kernel
theorem dX7_ending_24 : decode cX7_ending 24 = .ok (.aload_n 0, 1) := by decide +kernel
theorem dX7_ending_25 : decode cX7_ending 25 = .ok (.iload_n 1, 1) := by decide +kernel
theorem dX7_ending_26 : decode cX7_ending 26 = .ok (.iload_n 3, 1) := by decide +kernel
theorem dX7_ending_27 : decode cX7_ending 27 = .ok (.invokevirtual 69, 3) := by decide +kernel
theorem dX7_ending_30 : decode cX7_ending 30 = .ok (.iconst 1, 1) := by decide +kernel
theorem dX7_ending_31 : decode cX7_ending 31 = .ok (.isub, 1) := by decide +kernel
theorem dX7_ending_32 : decode cX7_ending 32 = .ok (.i2l, 1) := by decide +kernel
theorem dX7_ending_33 : decode cX7_ending 33 = .ok (.invokestatic 39, 3) := by decide +kernel
theorem dX7_ending_36 : decode cX7_ending 36 = .ok (.ifCond .eq 7, 3) := by decide +kernel
theorem dX7_ending_39 : decode cX7_ending 39 = .ok (.iconst 0, 1) := by decide +kernel
theorem dX7_ending_40 : decode cX7_ending 40 = .ok (.goto 4, 3) := by decide +kernel
theorem dX7_ending_43 : decode cX7_ending 43 = .ok (.iconst 2, 1) := by decide +kernel
theorem dX7_ending_44 : decode cX7_ending 44 = .ok (.invokevirtual 73, 3) := by decide +kernel
theorem dX7_ending_47 : decode cX7_ending 47 = .ok (.ifCond .eq 5, 3) := by decide +kernel
theorem dX7_ending_50 : decode cX7_ending 50 = .ok (.iconst 0, 1) := by decide +kernel
theorem dX7_ending_51 : decode cX7_ending 51 = .ok (.ireturn, 1) := by decide +kernel
theorem dX7_ending_52 : decode cX7_ending 52 = .ok (.aload_n 0, 1) := by decide +kernel
theorem dX7_ending_53 : decode cX7_ending 53 = .ok (.iload_n 1, 1) := by decide +kernel
theorem dX7_ending_54 : decode cX7_ending 54 = .ok (.iload_n 3, 1) := by decide +kernel
theorem dX7_ending_55 : decode cX7_ending 55 = .ok (.invokevirtual 69, 3) := by decide +kernel
theorem dX7_ending_58 : decode cX7_ending 58 = .ok (.istore 6, 2) := by decide +kernel
theorem dX7_ending_60 : decode cX7_ending 60 = .ok (.iconst 0, 1) := by decide +kernel
theorem dX7_ending_61 : decode cX7_ending 61 = .ok (.istore 7, 2) := by decide +kernel
theorem dX7_ending_63 : decode cX7_ending 63 = .ok (.iload 7, 2) := by decide +kernel
theorem dX7_ending_65 : decode cX7_ending 65 = .ok (.iload 6, 2) := by decide +kernel
theorem dX7_ending_67 : decode cX7_ending 67 = .ok (.if_icmp .ge 64, 3) := by decide +kernel
theorem dX7_ending_70 : decode cX7_ending 70 = .ok (.iconst 0, 1) := by decide +kernel
theorem dX7_ending_71 : decode cX7_ending 71 = .ok (.istore 8, 2) := by decide +kernel
theorem dX7_ending_73 : decode cX7_ending 73 = .ok (.iconst 0, 1) := by decide +kernel
theorem dX7_ending_74 : decode cX7_ending 74 = .ok (.istore 9, 2) := by decide +kernel
theorem dX7_ending_76 : decode cX7_ending 76 = .ok (.iload 9, 2) := by decide +kernel
theorem dX7_ending_78 : decode cX7_ending 78 = .ok (.iload 6, 2) := by decide +kernel
theorem dX7_ending_80 : decode cX7_ending 80 = .ok (.if_icmp .ge 35, 3) := by decide +kernel
theorem dX7_ending_83 : decode cX7_ending 83 = .ok (.iload 8, 2) := by decide +kernel
theorem dX7_ending_85 : decode cX7_ending 85 = .ok (.aload_n 0, 1) := by decide +kernel
theorem dX7_ending_86 : decode cX7_ending 86 = .ok (.iload_n 1, 1) := by decide +kernel
theorem dX7_ending_87 : decode cX7_ending 87 = .ok (.iload_n 2, 1) := by decide +kernel
theorem dX7_ending_88 : decode cX7_ending 88 = .ok (.iload_n 3, 1) := by decide +kernel
theorem dX7_ending_89 : decode cX7_ending 89 = .ok (.iload 6, 2) := by decide +kernel
theorem dX7_ending_91 : decode cX7_ending 91 = .ok (.iload 9, 2) := by decide +kernel
theorem dX7_ending_93 : decode cX7_ending 93 = .ok (.iload 7, 2) := by decide +kernel
theorem dX7_ending_95 : decode cX7_ending 95 = .ok (.invokevirtual 154, 3) := by decide +kernel
theorem dX7_ending_98 : decode cX7_ending 98 = .ok (.ifCond .ge 7, 3) := by decide +kernel
theorem dX7_ending_101 : decode cX7_ending 101 = .ok (.iconst 1, 1) := by decide +kernel
theorem dX7_ending_102 : decode cX7_ending 102 = .ok (.goto 4, 3) := by decide +kernel
theorem dX7_ending_105 : decode cX7_ending 105 = .ok (.iconst 0, 1) := by decide +kernel
theorem dX7_ending_106 : decode cX7_ending 106 = .ok (.iadd, 1) := by decide +kernel
theorem dX7_ending_107 : decode cX7_ending 107 = .ok (.istore 8, 2) := by decide +kernel
theorem dX7_ending_109 : decode cX7_ending 109 = .ok (.iinc 9 1, 3) := by decide +kernel
theorem dX7_ending_112 : decode cX7_ending 112 = .ok (.goto (-36), 3) := by decide +kernel
theorem dX7_ending_115 : decode cX7_ending 115 = .ok (.iload 8, 2) := by decide +kernel
theorem dX7_ending_117 : decode cX7_ending 117 = .ok (.iload 4, 2) := by decide +kernel
theorem dX7_ending_119 : decode cX7_ending 119 = .ok (.if_icmp .ne 6, 3) := by decide +kernel
theorem dX7_ending_122 : decode cX7_ending 122 = .ok (.iload 7, 2) := by decide +kernel
theorem dX7_ending_124 : decode cX7_ending 124 = .ok (.ireturn, 1) := by decide +kernel
theorem dX7_ending_125 : decode cX7_ending 125 = .ok (.iinc 7 1, 3) := by decide +kernel
theorem dX7_ending_128 : decode cX7_ending 128 = .ok (.goto (-65), 3) := by decide +kernel
theorem dX7_ending_131 : decode cX7_ending 131 = .ok (.iconst (-1), 1) := by decide +kernel
theorem dX7_ending_132 : decode cX7_ending 132 = .ok (.ireturn, 1) := by decide +kernel
theorem dX7_distinct_0 : decode cX7_distinct 0 = .ok (.aload_n 0, 1) := by decide +kernel
theorem dX7_distinct_1 : decode cX7_distinct 1 = .ok (.aload_n 0, 1) := by decide +kernel
theorem dX7_distinct_2 : decode cX7_distinct 2 = .ok (.iload_n 1, 1) := by decide +kernel
theorem dX7_distinct_3 : decode cX7_distinct 3 = .ok (.iload_n 2, 1) := by decide +kernel
theorem dX7_distinct_4 : decode cX7_distinct 4 = .ok (.invokevirtual 84, 3) := by decide +kernel
theorem dX7_distinct_7 : decode cX7_distinct 7 = .ok (.invokevirtual 73, 3) := by decide +kernel
theorem dX7_distinct_10 : decode cX7_distinct 10 = .ok (.ifCond .eq 5, 3) := by decide +kernel
theorem dX7_distinct_13 : decode cX7_distinct 13 = .ok (.iconst 0, 1) := by decide +kernel
theorem dX7_distinct_14 : decode cX7_distinct 14 = .ok (.ireturn, 1) := by decide +kernel
theorem dX7_distinct_15 : decode cX7_distinct 15 = .ok (.aload_n 0, 1) := by decide +kernel
theorem dX7_distinct_16 : decode cX7_distinct 16 = .ok (.iload_n 1, 1) := by decide +kernel
theorem dX7_distinct_17 : decode cX7_distinct 17 = .ok (.iload_n 2, 1) := by decide +kernel
theorem dX7_distinct_18 : decode cX7_distinct 18 = .ok (.invokevirtual 69, 3) := by decide +kernel
theorem dX7_distinct_21 : decode cX7_distinct 21 = .ok (.istore_n 3, 1) := by decide +kernel
theorem dX7_distinct_22 : decode cX7_distinct 22 = .ok (.iconst 0, 1) := by decide +kernel
theorem dX7_distinct_23 : decode cX7_distinct 23 = .ok (.istore 4, 2) := by decide +kernel
theorem dX7_distinct_25 : decode cX7_distinct 25 = .ok (.iconst 0, 1) := by decide +kernel
theorem dX7_distinct_26 : decode cX7_distinct 26 = .ok (.istore 5, 2) := by decide +kernel
theorem dX7_distinct_28 : decode cX7_distinct 28 = .ok (.iload 5, 2) := by decide +kernel
theorem dX7_distinct_30 : decode cX7_distinct 30 = .ok (.iload_n 3, 1) := by decide +kernel
theorem dX7_distinct_31 : decode cX7_distinct 31 = .ok (.if_icmp .ge 77, 3) := by decide +kernel
theorem dX7_distinct_34 : decode cX7_distinct 34 = .ok (.iconst 0, 1) := by decide +kernel
theorem dX7_distinct_35 : decode cX7_distinct 35 = .ok (.istore 6, 2) := by decide +kernel
theorem dX7_distinct_37 : decode cX7_distinct 37 = .ok (.iconst 0, 1) := by decide +kernel
theorem dX7_distinct_38 : decode cX7_distinct 38 = .ok (.istore 7, 2) := by decide +kernel
theorem dX7_distinct_40 : decode cX7_distinct 40 = .ok (.iload 7, 2) := by decide +kernel
theorem dX7_distinct_42 : decode cX7_distinct 42 = .ok (.iload 5, 2) := by decide +kernel
theorem dX7_distinct_44 : decode cX7_distinct 44 = .ok (.if_icmp .ge 46, 3) := by decide +kernel
theorem dX7_distinct_47 : decode cX7_distinct 47 = .ok (.aload_n 0, 1) := by decide +kernel
theorem dX7_distinct_48 : decode cX7_distinct 48 = .ok (.iload_n 1, 1) := by decide +kernel
theorem dX7_distinct_49 : decode cX7_distinct 49 = .ok (.iload_n 2, 1) := by decide +kernel
theorem dX7_distinct_50 : decode cX7_distinct 50 = .ok (.iload 7, 2) := by decide +kernel
theorem dX7_distinct_52 : decode cX7_distinct 52 = .ok (.iload_n 3, 1) := by decide +kernel
theorem dX7_distinct_53 : decode cX7_distinct 53 = .ok (.iload 7, 2) := by decide +kernel
theorem dX7_distinct_55 : decode cX7_distinct 55 = .ok (.isub, 1) := by decide +kernel
theorem dX7_distinct_56 : decode cX7_distinct 56 = .ok (.iload_n 2, 1) := by decide +kernel
theorem dX7_distinct_57 : decode cX7_distinct 57 = .ok (.iload 5, 2) := by decide +kernel
theorem dX7_distinct_59 : decode cX7_distinct 59 = .ok (.iload_n 3, 1) := by decide +kernel
theorem dX7_distinct_60 : decode cX7_distinct 60 = .ok (.iload 5, 2) := by decide +kernel
theorem dX7_distinct_62 : decode cX7_distinct 62 = .ok (.isub, 1) := by decide +kernel
theorem dX7_distinct_63 : decode cX7_distinct 63 = .ok (.invokevirtual 114, 3) := by decide +kernel
theorem dX7_distinct_66 : decode cX7_distinct 66 = .ok (.istore 8, 2) := by decide +kernel
theorem dX7_distinct_68 : decode cX7_distinct 68 = .ok (.iload 8, 2) := by decide +kernel
theorem dX7_distinct_70 : decode cX7_distinct 70 = .ok (.iload 6, 2) := by decide +kernel
theorem dX7_distinct_72 : decode cX7_distinct 72 = .ok (.if_icmp .le 8, 3) := by decide +kernel
theorem dX7_distinct_75 : decode cX7_distinct 75 = .ok (.iload 8, 2) := by decide +kernel
theorem dX7_distinct_77 : decode cX7_distinct 77 = .ok (.goto 5, 3) := by decide +kernel
theorem dX7_distinct_80 : decode cX7_distinct 80 = .ok (.iload 6, 2) := by decide +kernel
theorem dX7_distinct_82 : decode cX7_distinct 82 = .ok (.istore 6, 2) := by decide +kernel
theorem dX7_distinct_84 : decode cX7_distinct 84 = .ok (.iinc 7 1, 3) := by decide +kernel
theorem dX7_distinct_87 : decode cX7_distinct 87 = .ok (.goto (-47), 3) := by decide +kernel
theorem dX7_distinct_90 : decode cX7_distinct 90 = .ok (.iload 4, 2) := by decide +kernel
theorem dX7_distinct_92 : decode cX7_distinct 92 = .ok (.iload_n 3, 1) := by decide +kernel
theorem dX7_distinct_93 : decode cX7_distinct 93 = .ok (.iload 5, 2) := by decide +kernel
theorem dX7_distinct_95 : decode cX7_distinct 95 = .ok (.isub, 1) := by decide +kernel
theorem dX7_distinct_96 : decode cX7_distinct 96 = .ok (.iload 6, 2) := by decide +kernel
theorem dX7_distinct_98 : decode cX7_distinct 98 = .ok (.isub, 1) := by decide +kernel
theorem dX7_distinct_99 : decode cX7_distinct 99 = .ok (.iadd, 1) := by decide +kernel
theorem dX7_distinct_100 : decode cX7_distinct 100 = .ok (.istore 4, 2) := by decide +kernel
theorem dX7_distinct_102 : decode cX7_distinct 102 = .ok (.iinc 5 1, 3) := by decide +kernel
theorem dX7_distinct_105 : decode cX7_distinct 105 = .ok (.goto (-77), 3) := by decide +kernel
theorem dX7_distinct_108 : decode cX7_distinct 108 = .ok (.iload 4, 2) := by decide +kernel
theorem dX7_distinct_110 : decode cX7_distinct 110 = .ok (.ireturn, 1) := by decide +kernel
theorem dX7_longest_0 : decode cX7_longest 0 = .ok (.aload_n 0, 1) := by decide +kernel
theorem dX7_longest_1 : decode cX7_longest 1 = .ok (.aload_n 0, 1) := by decide +kernel
theorem dX7_longest_2 : decode cX7_longest 2 = .ok (.iload_n 1, 1) := by decide +kernel
theorem dX7_longest_3 : decode cX7_longest 3 = .ok (.iload_n 2, 1) := by decide +kernel
theorem dX7_longest_4 : decode cX7_longest 4 = .ok (.invokevirtual 84, 3) := by decide +kernel
theorem dX7_longest_7 : decode cX7_longest 7 = .ok (.invokevirtual 73, 3) := by decide +kernel
theorem dX7_longest_10 : decode cX7_longest 10 = .ok (.ifCond .eq 5, 3) := by decide +kernel
theorem dX7_longest_13 : decode cX7_longest 13 = .ok (.iconst 0, 1) := by decide +kernel
theorem dX7_longest_14 : decode cX7_longest 14 = .ok (.ireturn, 1) := by decide +kernel
theorem dX7_longest_15 : decode cX7_longest 15 = .ok (.aload_n 0, 1) := by decide +kernel
theorem dX7_longest_16 : decode cX7_longest 16 = .ok (.iload_n 1, 1) := by decide +kernel
theorem dX7_longest_17 : decode cX7_longest 17 = .ok (.iload_n 2, 1) := by decide +kernel
theorem dX7_longest_18 : decode cX7_longest 18 = .ok (.invokevirtual 69, 3) := by decide +kernel
theorem dX7_longest_21 : decode cX7_longest 21 = .ok (.istore_n 3, 1) := by decide +kernel
theorem dX7_longest_22 : decode cX7_longest 22 = .ok (.iconst 0, 1) := by decide +kernel
theorem dX7_longest_23 : decode cX7_longest 23 = .ok (.istore 4, 2) := by decide +kernel
theorem dX7_longest_25 : decode cX7_longest 25 = .ok (.iconst 0, 1) := by decide +kernel
theorem dX7_longest_26 : decode cX7_longest 26 = .ok (.istore 5, 2) := by decide +kernel
theorem dX7_longest_28 : decode cX7_longest 28 = .ok (.iload 5, 2) := by decide +kernel
theorem dX7_longest_30 : decode cX7_longest 30 = .ok (.iload_n 3, 1) := by decide +kernel
theorem dX7_longest_31 : decode cX7_longest 31 = .ok (.if_icmp .ge 62, 3) := by decide +kernel
theorem dX7_longest_34 : decode cX7_longest 34 = .ok (.iconst 0, 1) := by decide +kernel
theorem dX7_longest_35 : decode cX7_longest 35 = .ok (.istore 6, 2) := by decide +kernel
theorem dX7_longest_37 : decode cX7_longest 37 = .ok (.iload 6, 2) := by decide +kernel
theorem dX7_longest_39 : decode cX7_longest 39 = .ok (.iload 5, 2) := by decide +kernel
theorem dX7_longest_41 : decode cX7_longest 41 = .ok (.if_icmp .ge 46, 3) := by decide +kernel
theorem dX7_longest_44 : decode cX7_longest 44 = .ok (.aload_n 0, 1) := by decide +kernel
theorem dX7_longest_45 : decode cX7_longest 45 = .ok (.iload_n 1, 1) := by decide +kernel
theorem dX7_longest_46 : decode cX7_longest 46 = .ok (.iload_n 2, 1) := by decide +kernel
theorem dX7_longest_47 : decode cX7_longest 47 = .ok (.iload 6, 2) := by decide +kernel
theorem dX7_longest_49 : decode cX7_longest 49 = .ok (.iload_n 3, 1) := by decide +kernel
theorem dX7_longest_50 : decode cX7_longest 50 = .ok (.iload 6, 2) := by decide +kernel
theorem dX7_longest_52 : decode cX7_longest 52 = .ok (.isub, 1) := by decide +kernel
theorem dX7_longest_53 : decode cX7_longest 53 = .ok (.iload_n 2, 1) := by decide +kernel
theorem dX7_longest_54 : decode cX7_longest 54 = .ok (.iload 5, 2) := by decide +kernel
theorem dX7_longest_56 : decode cX7_longest 56 = .ok (.iload_n 3, 1) := by decide +kernel
theorem dX7_longest_57 : decode cX7_longest 57 = .ok (.iload 5, 2) := by decide +kernel
theorem dX7_longest_59 : decode cX7_longest 59 = .ok (.isub, 1) := by decide +kernel
theorem dX7_longest_60 : decode cX7_longest 60 = .ok (.invokevirtual 114, 3) := by decide +kernel
theorem dX7_longest_63 : decode cX7_longest 63 = .ok (.istore 7, 2) := by decide +kernel
theorem dX7_longest_65 : decode cX7_longest 65 = .ok (.iload 7, 2) := by decide +kernel
theorem dX7_longest_67 : decode cX7_longest 67 = .ok (.iload 4, 2) := by decide +kernel
theorem dX7_longest_69 : decode cX7_longest 69 = .ok (.if_icmp .le 8, 3) := by decide +kernel
theorem dX7_longest_72 : decode cX7_longest 72 = .ok (.iload 7, 2) := by decide +kernel
theorem dX7_longest_74 : decode cX7_longest 74 = .ok (.goto 5, 3) := by decide +kernel
theorem dX7_longest_77 : decode cX7_longest 77 = .ok (.iload 4, 2) := by decide +kernel
theorem dX7_longest_79 : decode cX7_longest 79 = .ok (.istore 4, 2) := by decide +kernel
theorem dX7_longest_81 : decode cX7_longest 81 = .ok (.iinc 6 1, 3) := by decide +kernel
theorem dX7_longest_84 : decode cX7_longest 84 = .ok (.goto (-47), 3) := by decide +kernel
theorem dX7_longest_87 : decode cX7_longest 87 = .ok (.iinc 5 1, 3) := by decide +kernel
theorem dX7_longest_90 : decode cX7_longest 90 = .ok (.goto (-62), 3) := by decide +kernel
theorem dX7_longest_93 : decode cX7_longest 93 = .ok (.iload 4, 2) := by decide +kernel
theorem dX7_longest_95 : decode cX7_longest 95 = .ok (.ireturn, 1) := by decide +kernel
theorem dX7_occurs_0 : decode cX7_occurs 0 = .ok (.aload_n 0, 1) := by decide +kernel
theorem dX7_occurs_1 : decode cX7_occurs 1 = .ok (.iload_n 1, 1) := by decide +kernel
theorem dX7_occurs_2 : decode cX7_occurs 2 = .ok (.invokestatic 57, 3) := by decide +kernel
theorem dX7_occurs_5 : decode cX7_occurs 5 = .ok (.ifCond .ne 7, 3) := by decide +kernel
theorem dX7_occurs_8 : decode cX7_occurs 8 = .ok (.iconst 1, 1) := by decide +kernel
theorem dX7_occurs_9 : decode cX7_occurs 9 = .ok (.goto 35, 3) := by decide +kernel
theorem dX7_occurs_12 : decode cX7_occurs 12 = .ok (.iload_n 2, 1) := by decide +kernel
theorem dX7_occurs_13 : decode cX7_occurs 13 = .ok (.invokestatic 61, 3) := by decide +kernel
theorem dX7_occurs_16 : decode cX7_occurs 16 = .ok (.ifCond .eq 10, 3) := by decide +kernel
theorem dX7_occurs_19 : decode cX7_occurs 19 = .ok (.iload_n 3, 1) := by decide +kernel
theorem dX7_occurs_20 : decode cX7_occurs 20 = .ok (.invokestatic 105, 3) := by decide +kernel
theorem dX7_occurs_23 : decode cX7_occurs 23 = .ok (.ifCond .ne 7, 3) := by decide +kernel
theorem dX7_occurs_26 : decode cX7_occurs 26 = .ok (.iconst 2, 1) := by decide +kernel
theorem dX7_occurs_27 : decode cX7_occurs 27 = .ok (.goto 17, 3) := by decide +kernel
theorem dX7_occurs_30 : decode cX7_occurs 30 = .ok (.aload_n 0, 1) := by decide +kernel
theorem dX7_occurs_31 : decode cX7_occurs 31 = .ok (.iload_n 1, 1) := by decide +kernel
theorem dX7_occurs_32 : decode cX7_occurs 32 = .ok (.iload_n 3, 1) := by decide +kernel
theorem dX7_occurs_33 : decode cX7_occurs 33 = .ok (.invokevirtual 110, 3) := by decide +kernel
theorem dX7_occurs_36 : decode cX7_occurs 36 = .ok (.ifCond .eq 7, 3) := by decide +kernel
theorem dX7_occurs_39 : decode cX7_occurs 39 = .ok (.iconst 0, 1) := by decide +kernel
theorem dX7_occurs_40 : decode cX7_occurs 40 = .ok (.goto 4, 3) := by decide +kernel
theorem dX7_occurs_43 : decode cX7_occurs 43 = .ok (.iconst 3, 1) := by decide +kernel
theorem dX7_occurs_44 : decode cX7_occurs 44 = .ok (.invokevirtual 73, 3) := by decide +kernel
theorem dX7_occurs_47 : decode cX7_occurs 47 = .ok (.ifCond .eq 5, 3) := by decide +kernel
theorem dX7_occurs_50 : decode cX7_occurs 50 = .ok (.iconst 0, 1) := by decide +kernel
theorem dX7_occurs_51 : decode cX7_occurs 51 = .ok (.ireturn, 1) := by decide +kernel
theorem dX7_occurs_52 : decode cX7_occurs 52 = .ok (.aload_n 0, 1) := by decide +kernel
theorem dX7_occurs_53 : decode cX7_occurs 53 = .ok (.iload_n 3, 1) := by decide +kernel
theorem dX7_occurs_54 : decode cX7_occurs 54 = .ok (.invokevirtual 133, 3) := by decide +kernel
theorem dX7_occurs_57 : decode cX7_occurs 57 = .ok (.istore 4, 2) := by decide +kernel
theorem dX7_occurs_59 : decode cX7_occurs 59 = .ok (.iconst 0, 1) := by decide +kernel
theorem dX7_occurs_60 : decode cX7_occurs 60 = .ok (.istore 5, 2) := by decide +kernel
theorem dX7_occurs_62 : decode cX7_occurs 62 = .ok (.iconst 0, 1) := by decide +kernel
theorem dX7_occurs_63 : decode cX7_occurs 63 = .ok (.istore 6, 2) := by decide +kernel
theorem dX7_occurs_65 : decode cX7_occurs 65 = .ok (.iload 6, 2) := by decide +kernel
theorem dX7_occurs_67 : decode cX7_occurs 67 = .ok (.iload 4, 2) := by decide +kernel
theorem dX7_occurs_69 : decode cX7_occurs 69 = .ok (.iadd, 1) := by decide +kernel
theorem dX7_occurs_70 : decode cX7_occurs 70 = .ok (.aload_n 0, 1) := by decide +kernel
theorem dX7_occurs_71 : decode cX7_occurs 71 = .ok (.iload_n 1, 1) := by decide +kernel
theorem dX7_occurs_72 : decode cX7_occurs 72 = .ok (.iload_n 2, 1) := by decide +kernel
theorem dX7_occurs_73 : decode cX7_occurs 73 = .ok (.invokevirtual 69, 3) := by decide +kernel
theorem dX7_occurs_76 : decode cX7_occurs 76 = .ok (.if_icmp .gt 48, 3) := by decide +kernel
theorem dX7_occurs_79 : decode cX7_occurs 79 = .ok (.iload 5, 2) := by decide +kernel
theorem dX7_occurs_81 : decode cX7_occurs 81 = .ok (.aload_n 0, 1) := by decide +kernel
theorem dX7_occurs_82 : decode cX7_occurs 82 = .ok (.iload_n 1, 1) := by decide +kernel
theorem dX7_occurs_83 : decode cX7_occurs 83 = .ok (.iload_n 2, 1) := by decide +kernel
theorem dX7_occurs_84 : decode cX7_occurs 84 = .ok (.iload 6, 2) := by decide +kernel
theorem dX7_occurs_86 : decode cX7_occurs 86 = .ok (.iload 4, 2) := by decide +kernel
theorem dX7_occurs_88 : decode cX7_occurs 88 = .ok (.aload_n 0, 1) := by decide +kernel
theorem dX7_occurs_89 : decode cX7_occurs 89 = .ok (.getfield 17, 3) := by decide +kernel
theorem dX7_occurs_92 : decode cX7_occurs 92 = .ok (.iload_n 3, 1) := by decide +kernel
theorem dX7_occurs_93 : decode cX7_occurs 93 = .ok (.iaload, 1) := by decide +kernel
theorem dX7_occurs_94 : decode cX7_occurs 94 = .ok (.aload_n 0, 1) := by decide +kernel
theorem dX7_occurs_95 : decode cX7_occurs 95 = .ok (.getfield 20, 3) := by decide +kernel
theorem dX7_occurs_98 : decode cX7_occurs 98 = .ok (.iload_n 3, 1) := by decide +kernel
theorem dX7_occurs_99 : decode cX7_occurs 99 = .ok (.iaload, 1) := by decide +kernel
theorem dX7_occurs_100 : decode cX7_occurs 100 = .ok (.iload 4, 2) := by decide +kernel
theorem dX7_occurs_102 : decode cX7_occurs 102 = .ok (.invokevirtual 114, 3) := by decide +kernel
theorem dX7_occurs_105 : decode cX7_occurs 105 = .ok (.iload 4, 2) := by decide +kernel
theorem dX7_occurs_107 : decode cX7_occurs 107 = .ok (.if_icmp .ne 7, 3) := by decide +kernel
theorem dX7_occurs_110 : decode cX7_occurs 110 = .ok (.iconst 1, 1) := by decide +kernel
theorem dX7_occurs_111 : decode cX7_occurs 111 = .ok (.goto 4, 3) := by decide +kernel
theorem dX7_occurs_114 : decode cX7_occurs 114 = .ok (.iconst 0, 1) := by decide +kernel
theorem dX7_occurs_115 : decode cX7_occurs 115 = .ok (.iadd, 1) := by decide +kernel
theorem dX7_occurs_116 : decode cX7_occurs 116 = .ok (.istore 5, 2) := by decide +kernel
theorem dX7_occurs_118 : decode cX7_occurs 118 = .ok (.iinc 6 1, 3) := by decide +kernel
theorem dX7_occurs_121 : decode cX7_occurs 121 = .ok (.goto (-56), 3) := by decide +kernel
theorem dX7_occurs_124 : decode cX7_occurs 124 = .ok (.iload 5, 2) := by decide +kernel
theorem dX7_occurs_126 : decode cX7_occurs 126 = .ok (.ireturn, 1) := by decide +kernel
theorem dX7_is_0 : decode cX7_is 0 = .ok (.aload_n 0, 1) := by decide +kernel
theorem dX7_is_1 : decode cX7_is 1 = .ok (.iload_n 1, 1) := by decide +kernel
theorem dX7_is_2 : decode cX7_is 2 = .ok (.iload_n 2, 1) := by decide +kernel
theorem dX7_is_3 : decode cX7_is 3 = .ok (.invokevirtual 69, 3) := by decide +kernel
theorem dX7_is_6 : decode cX7_is 6 = .ok (.istore 4, 2) := by decide +kernel
theorem dX7_is_8 : decode cX7_is 8 = .ok (.iload_n 3, 1) := by decide +kernel
theorem dX7_is_9 : decode cX7_is 9 = .ok (.istore 5, 2) := by decide +kernel
theorem dX7_is_11 : decode cX7_is 11 = .ok (.iload 5, 2) := by decide +kernel
theorem dX7_is_13 : decode cX7_is 13 = .ok (.iload 4, 2) := by decide +kernel
theorem dX7_is_15 : decode cX7_is 15 = .ok (.if_icmp .ge 43, 3) := by decide +kernel
theorem dX7_is_18 : decode cX7_is 18 = .ok (.aload_n 0, 1) := by decide +kernel
theorem dX7_is_19 : decode cX7_is 19 = .ok (.getfield 7, 3) := by decide +kernel
theorem dX7_is_22 : decode cX7_is 22 = .ok (.aload_n 0, 1) := by decide +kernel
theorem dX7_is_23 : decode cX7_is 23 = .ok (.iload_n 1, 1) := by decide +kernel
theorem dX7_is_24 : decode cX7_is 24 = .ok (.iload_n 2, 1) := by decide +kernel
theorem dX7_is_25 : decode cX7_is 25 = .ok (.iload 5, 2) := by decide +kernel
theorem dX7_is_27 : decode cX7_is 27 = .ok (.invokevirtual 76, 3) := by decide +kernel
theorem dX7_is_30 : decode cX7_is 30 = .ok (.laload, 1) := by decide +kernel
theorem dX7_is_31 : decode cX7_is 31 = .ok (.aload_n 0, 1) := by decide +kernel
theorem dX7_is_32 : decode cX7_is 32 = .ok (.getfield 7, 3) := by decide +kernel
theorem dX7_is_35 : decode cX7_is 35 = .ok (.aload_n 0, 1) := by decide +kernel
theorem dX7_is_36 : decode cX7_is 36 = .ok (.iload_n 1, 1) := by decide +kernel
theorem dX7_is_37 : decode cX7_is 37 = .ok (.iload_n 2, 1) := by decide +kernel
theorem dX7_is_38 : decode cX7_is 38 = .ok (.iload 5, 2) := by decide +kernel
theorem dX7_is_40 : decode cX7_is 40 = .ok (.iload_n 3, 1) := by decide +kernel
theorem dX7_is_41 : decode cX7_is 41 = .ok (.isub, 1) := by decide +kernel
theorem dX7_is_42 : decode cX7_is 42 = .ok (.invokevirtual 76, 3) := by decide +kernel
theorem dX7_is_45 : decode cX7_is 45 = .ok (.laload, 1) := by decide +kernel
theorem dX7_is_46 : decode cX7_is 46 = .ok (.lcmp, 1) := by decide +kernel
theorem dX7_is_47 : decode cX7_is 47 = .ok (.ifCond .eq 5, 3) := by decide +kernel
theorem dX7_is_50 : decode cX7_is 50 = .ok (.iconst 0, 1) := by decide +kernel
theorem dX7_is_51 : decode cX7_is 51 = .ok (.ireturn, 1) := by decide +kernel
theorem dX7_is_52 : decode cX7_is 52 = .ok (.iinc 5 1, 3) := by decide +kernel
theorem dX7_is_55 : decode cX7_is 55 = .ok (.goto (-44), 3) := by decide +kernel
theorem dX7_is_58 : decode cX7_is 58 = .ok (.iconst 1, 1) := by decide +kernel
theorem dX7_is_59 : decode cX7_is 59 = .ok (.ireturn, 1) := by decide +kernel
theorem dX7_isPeriod_0 : decode cX7_isPeriod 0 = .ok (.aload_n 0, 1) := by decide +kernel
theorem dX7_isPeriod_1 : decode cX7_isPeriod 1 = .ok (.iload_n 1, 1) := by decide +kernel
theorem dX7_isPeriod_2 : decode cX7_isPeriod 2 = .ok (.invokestatic 57, 3) := by decide +kernel
theorem dX7_isPeriod_5 : decode cX7_isPeriod 5 = .ok (.ifCond .ne 7, 3) := by decide +kernel
theorem dX7_isPeriod_8 : decode cX7_isPeriod 8 = .ok (.iconst 1, 1) := by decide +kernel
theorem dX7_isPeriod_9 : decode cX7_isPeriod 9 = .ok (.goto 31, 3) := by decide +kernel
theorem dX7_isPeriod_12 : decode cX7_isPeriod 12 = .ok (.iload_n 2, 1) := by decide +kernel
theorem dX7_isPeriod_13 : decode cX7_isPeriod 13 = .ok (.invokestatic 61, 3) := by decide +kernel
theorem dX7_isPeriod_16 : decode cX7_isPeriod 16 = .ok (.ifCond .eq 23, 3) := by decide +kernel
theorem dX7_isPeriod_19 : decode cX7_isPeriod 19 = .ok (.iload_n 3, 1) := by decide +kernel
theorem dX7_isPeriod_20 : decode cX7_isPeriod 20 = .ok (.i2l, 1) := by decide +kernel
theorem dX7_isPeriod_21 : decode cX7_isPeriod 21 = .ok (.lconst 1, 1) := by decide +kernel
theorem dX7_isPeriod_22 : decode cX7_isPeriod 22 = .ok (.aload_n 0, 1) := by decide +kernel
theorem dX7_isPeriod_23 : decode cX7_isPeriod 23 = .ok (.iload_n 1, 1) := by decide +kernel
theorem dX7_isPeriod_24 : decode cX7_isPeriod 24 = .ok (.iload_n 2, 1) := by decide +kernel
theorem dX7_isPeriod_25 : decode cX7_isPeriod 25 = .ok (.invokevirtual 69, 3) := by decide +kernel
theorem dX7_isPeriod_28 : decode cX7_isPeriod 28 = .ok (.i2l, 1) := by decide +kernel
theorem dX7_isPeriod_29 : decode cX7_isPeriod 29 = .ok (.invokestatic 39, 3) := by decide +kernel
theorem dX7_isPeriod_32 : decode cX7_isPeriod 32 = .ok (.ifCond .eq 7, 3) := by decide +kernel
theorem dX7_isPeriod_35 : decode cX7_isPeriod 35 = .ok (.iconst 0, 1) := by decide +kernel
theorem dX7_isPeriod_36 : decode cX7_isPeriod 36 = .ok (.goto 4, 3) := by decide +kernel
theorem dX7_isPeriod_39 : decode cX7_isPeriod 39 = .ok (.iconst 2, 1) := by decide +kernel
theorem dX7_isPeriod_40 : decode cX7_isPeriod 40 = .ok (.invokevirtual 73, 3) := by decide +kernel
theorem dX7_isPeriod_43 : decode cX7_isPeriod 43 = .ok (.ifCond .ne 17, 3) := by decide +kernel
theorem dX7_isPeriod_46 : decode cX7_isPeriod 46 = .ok (.aload_n 0, 1) := by decide +kernel
theorem dX7_isPeriod_47 : decode cX7_isPeriod 47 = .ok (.iload_n 1, 1) := by decide +kernel
theorem dX7_isPeriod_48 : decode cX7_isPeriod 48 = .ok (.iload_n 2, 1) := by decide +kernel
theorem dX7_isPeriod_49 : decode cX7_isPeriod 49 = .ok (.iload_n 3, 1) := by decide +kernel
theorem dX7_isPeriod_50 : decode cX7_isPeriod 50 = .ok (.invokevirtual 158, 3) := by decide +kernel
theorem dX7_isPeriod_53 : decode cX7_isPeriod 53 = .ok (.ifCond .eq 7, 3) := by decide +kernel
theorem dX7_isPeriod_56 : decode cX7_isPeriod 56 = .ok (.iconst 1, 1) := by decide +kernel
theorem dX7_isPeriod_57 : decode cX7_isPeriod 57 = .ok (.goto 4, 3) := by decide +kernel
theorem dX7_isPeriod_60 : decode cX7_isPeriod 60 = .ok (.iconst 0, 1) := by decide +kernel
theorem dX7_isPeriod_61 : decode cX7_isPeriod 61 = .ok (.ireturn, 1) := by decide +kernel
theorem dX7_period_0 : decode cX7_period 0 = .ok (.aload_n 0, 1) := by decide +kernel
theorem dX7_period_1 : decode cX7_period 1 = .ok (.aload_n 0, 1) := by decide +kernel
theorem dX7_period_2 : decode cX7_period 2 = .ok (.iload_n 1, 1) := by decide +kernel
theorem dX7_period_3 : decode cX7_period 3 = .ok (.iload_n 2, 1) := by decide +kernel
theorem dX7_period_4 : decode cX7_period 4 = .ok (.invokevirtual 84, 3) := by decide +kernel
theorem dX7_period_7 : decode cX7_period 7 = .ok (.invokevirtual 73, 3) := by decide +kernel
theorem dX7_period_10 : decode cX7_period 10 = .ok (.ifCond .ne 12, 3) := by decide +kernel
theorem dX7_period_13 : decode cX7_period 13 = .ok (.aload_n 0, 1) := by decide +kernel
theorem dX7_period_14 : decode cX7_period 14 = .ok (.iload_n 1, 1) := by decide +kernel
theorem dX7_period_15 : decode cX7_period 15 = .ok (.iload_n 2, 1) := by decide +kernel
theorem dX7_period_16 : decode cX7_period 16 = .ok (.invokevirtual 69, 3) := by decide +kernel
theorem dX7_period_19 : decode cX7_period 19 = .ok (.ifCond .ne 5, 3) := by decide +kernel
theorem dX7_period_22 : decode cX7_period 22 = .ok (.iconst 0, 1) := by decide +kernel
theorem dX7_period_23 : decode cX7_period 23 = .ok (.ireturn, 1) := by decide +kernel
theorem dX7_period_24 : decode cX7_period 24 = .ok (.iconst 1, 1) := by decide +kernel
theorem dX7_period_25 : decode cX7_period 25 = .ok (.istore_n 3, 1) := by decide +kernel
theorem dX7_period_26 : decode cX7_period 26 = .ok (.aload_n 0, 1) := by decide +kernel
theorem dX7_period_27 : decode cX7_period 27 = .ok (.iload_n 1, 1) := by decide +kernel
theorem dX7_period_28 : decode cX7_period 28 = .ok (.iload_n 2, 1) := by decide +kernel
theorem dX7_period_29 : decode cX7_period 29 = .ok (.iload_n 3, 1) := by decide +kernel
theorem dX7_period_30 : decode cX7_period 30 = .ok (.invokevirtual 158, 3) := by decide +kernel
theorem dX7_period_33 : decode cX7_period 33 = .ok (.ifCond .ne 9, 3) := by decide +kernel
theorem dX7_period_36 : decode cX7_period 36 = .ok (.iinc 3 1, 3) := by decide +kernel
theorem dX7_period_39 : decode cX7_period 39 = .ok (.goto (-13), 3) := by decide +kernel
theorem dX7_period_42 : decode cX7_period 42 = .ok (.iload_n 3, 1) := by decide +kernel
theorem dX7_period_43 : decode cX7_period 43 = .ok (.ireturn, 1) := by decide +kernel
theorem dX7_root_0 : decode cX7_root 0 = .ok (.aload_n 0, 1) := by decide +kernel
theorem dX7_root_1 : decode cX7_root 1 = .ok (.aload_n 0, 1) := by decide +kernel
theorem dX7_root_2 : decode cX7_root 2 = .ok (.iload_n 1, 1) := by decide +kernel
theorem dX7_root_3 : decode cX7_root 3 = .ok (.iload_n 2, 1) := by decide +kernel
theorem dX7_root_4 : decode cX7_root 4 = .ok (.invokevirtual 84, 3) := by decide +kernel
theorem dX7_root_7 : decode cX7_root 7 = .ok (.invokevirtual 73, 3) := by decide +kernel
theorem dX7_root_10 : decode cX7_root 10 = .ok (.ifCond .ne 12, 3) := by decide +kernel
theorem dX7_root_13 : decode cX7_root 13 = .ok (.aload_n 0, 1) := by decide +kernel
theorem dX7_root_14 : decode cX7_root 14 = .ok (.iload_n 1, 1) := by decide +kernel
theorem dX7_root_15 : decode cX7_root 15 = .ok (.iload_n 2, 1) := by decide +kernel
theorem dX7_root_16 : decode cX7_root 16 = .ok (.invokevirtual 69, 3) := by decide +kernel
theorem dX7_root_19 : decode cX7_root 19 = .ok (.ifCond .ne 5, 3) := by decide +kernel
theorem dX7_root_22 : decode cX7_root 22 = .ok (.iconst 0, 1) := by decide +kernel
theorem dX7_root_23 : decode cX7_root 23 = .ok (.ireturn, 1) := by decide +kernel
theorem dX7_root_24 : decode cX7_root 24 = .ok (.iconst 1, 1) := by decide +kernel
theorem dX7_root_25 : decode cX7_root 25 = .ok (.istore_n 3, 1) := by decide +kernel
theorem dX7_root_26 : decode cX7_root 26 = .ok (.aload_n 0, 1) := by decide +kernel
theorem dX7_root_27 : decode cX7_root 27 = .ok (.iload_n 1, 1) := by decide +kernel
theorem dX7_root_28 : decode cX7_root 28 = .ok (.iload_n 2, 1) := by decide +kernel
theorem dX7_root_29 : decode cX7_root 29 = .ok (.invokevirtual 69, 3) := by decide +kernel
theorem dX7_root_32 : decode cX7_root 32 = .ok (.iload_n 3, 1) := by decide +kernel
theorem dX7_root_33 : decode cX7_root 33 = .ok (.irem, 1) := by decide +kernel
theorem dX7_root_34 : decode cX7_root 34 = .ok (.ifCond .ne 13, 3) := by decide +kernel
theorem dX7_root_37 : decode cX7_root 37 = .ok (.aload_n 0, 1) := by decide +kernel
theorem dX7_root_38 : decode cX7_root 38 = .ok (.iload_n 1, 1) := by decide +kernel
theorem dX7_root_39 : decode cX7_root 39 = .ok (.iload_n 2, 1) := by decide +kernel
theorem dX7_root_40 : decode cX7_root 40 = .ok (.iload_n 3, 1) := by decide +kernel
theorem dX7_root_41 : decode cX7_root 41 = .ok (.invokevirtual 158, 3) := by decide +kernel
theorem dX7_root_44 : decode cX7_root 44 = .ok (.ifCond .ne 9, 3) := by decide +kernel
theorem dX7_root_47 : decode cX7_root 47 = .ok (.iinc 3 1, 3) := by decide +kernel
theorem dX7_root_50 : decode cX7_root 50 = .ok (.goto (-24), 3) := by decide +kernel
theorem dX7_root_53 : decode cX7_root 53 = .ok (.iload_n 3, 1) := by decide +kernel
theorem dX7_root_54 : decode cX7_root 54 = .ok (.ireturn, 1) := by decide +kernel
theorem dX7_isTurnedLess_0 : decode cX7_isTurnedLess 0 = .ok (.aload_n 0, 1) := by decide +kernel
theorem dX7_isTurnedLess_1 : decode cX7_isTurnedLess 1 = .ok (.iload_n 1, 1) := by decide +kernel
theorem dX7_isTurnedLess_2 : decode cX7_isTurnedLess 2 = .ok (.iload_n 3, 1) := by decide +kernel
theorem dX7_isTurnedLess_3 : decode cX7_isTurnedLess 3 = .ok (.invokevirtual 69, 3) := by decide +kernel
theorem dX7_isTurnedLess_6 : decode cX7_isTurnedLess 6 = .ok (.istore 6, 2) := by decide +kernel
theorem dX7_isTurnedLess_8 : decode cX7_isTurnedLess 8 = .ok (.iconst 0, 1) := by decide +kernel
theorem dX7_isTurnedLess_9 : decode cX7_isTurnedLess 9 = .ok (.istore 7, 2) := by decide +kernel
theorem dX7_isTurnedLess_11 : decode cX7_isTurnedLess 11 = .ok (.iload 7, 2) := by decide +kernel
theorem dX7_isTurnedLess_13 : decode cX7_isTurnedLess 13 = .ok (.iload 6, 2) := by decide +kernel
theorem dX7_isTurnedLess_15 : decode cX7_isTurnedLess 15 = .ok (.if_icmp .ge 68, 3) := by decide +kernel
theorem dX7_isTurnedLess_18 : decode cX7_isTurnedLess 18 = .ok (.aload_n 0, 1) := by decide +kernel
theorem dX7_isTurnedLess_19 : decode cX7_isTurnedLess 19 = .ok (.getfield 7, 3) := by decide +kernel
theorem dX7_isTurnedLess_22 : decode cX7_isTurnedLess 22 = .ok (.aload_n 0, 1) := by decide +kernel
theorem dX7_isTurnedLess_23 : decode cX7_isTurnedLess 23 = .ok (.iload_n 1, 1) := by decide +kernel
theorem dX7_isTurnedLess_24 : decode cX7_isTurnedLess 24 = .ok (.iload_n 3, 1) := by decide +kernel
theorem dX7_isTurnedLess_25 : decode cX7_isTurnedLess 25 = .ok (.iload 4, 2) := by decide +kernel
theorem dX7_isTurnedLess_27 : decode cX7_isTurnedLess 27 = .ok (.iload 7, 2) := by decide +kernel
theorem dX7_isTurnedLess_29 : decode cX7_isTurnedLess 29 = .ok (.iadd, 1) := by decide +kernel
theorem dX7_isTurnedLess_30 : decode cX7_isTurnedLess 30 = .ok (.iload 6, 2) := by decide +kernel
theorem dX7_isTurnedLess_32 : decode cX7_isTurnedLess 32 = .ok (.irem, 1) := by decide +kernel
theorem dX7_isTurnedLess_33 : decode cX7_isTurnedLess 33 = .ok (.invokevirtual 76, 3) := by decide +kernel
theorem dX7_isTurnedLess_36 : decode cX7_isTurnedLess 36 = .ok (.laload, 1) := by decide +kernel
theorem dX7_isTurnedLess_37 : decode cX7_isTurnedLess 37 = .ok (.lstore 8, 2) := by decide +kernel
theorem dX7_isTurnedLess_39 : decode cX7_isTurnedLess 39 = .ok (.aload_n 0, 1) := by decide +kernel
theorem dX7_isTurnedLess_40 : decode cX7_isTurnedLess 40 = .ok (.getfield 7, 3) := by decide +kernel
theorem dX7_isTurnedLess_43 : decode cX7_isTurnedLess 43 = .ok (.aload_n 0, 1) := by decide +kernel
theorem dX7_isTurnedLess_44 : decode cX7_isTurnedLess 44 = .ok (.iload_n 1, 1) := by decide +kernel
theorem dX7_isTurnedLess_45 : decode cX7_isTurnedLess 45 = .ok (.iload_n 3, 1) := by decide +kernel
theorem dX7_isTurnedLess_46 : decode cX7_isTurnedLess 46 = .ok (.iload 5, 2) := by decide +kernel
theorem dX7_isTurnedLess_48 : decode cX7_isTurnedLess 48 = .ok (.iload 7, 2) := by decide +kernel
theorem dX7_isTurnedLess_50 : decode cX7_isTurnedLess 50 = .ok (.iadd, 1) := by decide +kernel
theorem dX7_isTurnedLess_51 : decode cX7_isTurnedLess 51 = .ok (.iload 6, 2) := by decide +kernel
theorem dX7_isTurnedLess_53 : decode cX7_isTurnedLess 53 = .ok (.irem, 1) := by decide +kernel
theorem dX7_isTurnedLess_54 : decode cX7_isTurnedLess 54 = .ok (.invokevirtual 76, 3) := by decide +kernel
theorem dX7_isTurnedLess_57 : decode cX7_isTurnedLess 57 = .ok (.laload, 1) := by decide +kernel
theorem dX7_isTurnedLess_58 : decode cX7_isTurnedLess 58 = .ok (.lstore 10, 2) := by decide +kernel
theorem dX7_isTurnedLess_60 : decode cX7_isTurnedLess 60 = .ok (.lload 8, 2) := by decide +kernel
theorem dX7_isTurnedLess_62 : decode cX7_isTurnedLess 62 = .ok (.lload 10, 2) := by decide +kernel
theorem dX7_isTurnedLess_64 : decode cX7_isTurnedLess 64 = .ok (.lcmp, 1) := by decide +kernel
theorem dX7_isTurnedLess_65 : decode cX7_isTurnedLess 65 = .ok (.ifCond .eq 12, 3) := by decide +kernel
theorem dX7_isTurnedLess_68 : decode cX7_isTurnedLess 68 = .ok (.lload 8, 2) := by decide +kernel
theorem dX7_isTurnedLess_70 : decode cX7_isTurnedLess 70 = .ok (.lload 10, 2) := by decide +kernel
theorem dX7_isTurnedLess_72 : decode cX7_isTurnedLess 72 = .ok (.iload_n 2, 1) := by decide +kernel
theorem dX7_isTurnedLess_73 : decode cX7_isTurnedLess 73 = .ok (.invokestatic 118, 3) := by decide +kernel
theorem dX7_isTurnedLess_76 : decode cX7_isTurnedLess 76 = .ok (.ireturn, 1) := by decide +kernel
theorem dX7_isTurnedLess_77 : decode cX7_isTurnedLess 77 = .ok (.iinc 7 1, 3) := by decide +kernel
theorem dX7_isTurnedLess_80 : decode cX7_isTurnedLess 80 = .ok (.goto (-69), 3) := by decide +kernel
theorem dX7_isTurnedLess_83 : decode cX7_isTurnedLess 83 = .ok (.iconst 0, 1) := by decide +kernel
theorem dX7_isTurnedLess_84 : decode cX7_isTurnedLess 84 = .ok (.ireturn, 1) := by decide +kernel
theorem dX7_rotation_0 : decode cX7_rotation 0 = .ok (.aload_n 0, 1) := by decide +kernel
theorem dX7_rotation_1 : decode cX7_rotation 1 = .ok (.aload_n 0, 1) := by decide +kernel
theorem dX7_rotation_2 : decode cX7_rotation 2 = .ok (.iload_n 1, 1) := by decide +kernel
theorem dX7_rotation_3 : decode cX7_rotation 3 = .ok (.iload_n 2, 1) := by decide +kernel
theorem dX7_rotation_4 : decode cX7_rotation 4 = .ok (.iload_n 3, 1) := by decide +kernel
theorem dX7_rotation_5 : decode cX7_rotation 5 = .ok (.invokevirtual 150, 3) := by decide +kernel
theorem dX7_rotation_8 : decode cX7_rotation 8 = .ok (.invokevirtual 73, 3) := by decide +kernel
theorem dX7_rotation_11 : decode cX7_rotation 11 = .ok (.ifCond .eq 5, 3) := by decide +kernel
theorem dX7_rotation_14 : decode cX7_rotation 14 = .ok (.iconst 0, 1) := by decide +kernel
theorem dX7_rotation_15 : decode cX7_rotation 15 = .ok (.ireturn, 1) := by decide +kernel
theorem dX7_rotation_16 : decode cX7_rotation 16 = .ok (.aload_n 0, 1) := by decide +kernel
theorem dX7_rotation_17 : decode cX7_rotation 17 = .ok (.iload_n 1, 1) := by decide +kernel
theorem dX7_rotation_18 : decode cX7_rotation 18 = .ok (.iload_n 3, 1) := by decide +kernel
theorem dX7_rotation_19 : decode cX7_rotation 19 = .ok (.invokevirtual 69, 3) := by decide +kernel
theorem dX7_rotation_22 : decode cX7_rotation 22 = .ok (.ifCond .ne 7, 3) := by decide +kernel
theorem dX7_rotation_25 : decode cX7_rotation 25 = .ok (.iconst (-1), 1) := by decide +kernel
theorem dX7_rotation_26 : decode cX7_rotation 26 = .ok (.goto 4, 3) := by decide +kernel
theorem dX7_rotation_29 : decode cX7_rotation 29 = .ok (.iconst 0, 1) := by decide +kernel
theorem dX7_rotation_30 : decode cX7_rotation 30 = .ok (.istore 4, 2) := by decide +kernel
theorem dX7_rotation_32 : decode cX7_rotation 32 = .ok (.iconst 1, 1) := by decide +kernel
theorem dX7_rotation_33 : decode cX7_rotation 33 = .ok (.istore 5, 2) := by decide +kernel
theorem dX7_rotation_35 : decode cX7_rotation 35 = .ok (.iload 5, 2) := by decide +kernel
theorem dX7_rotation_37 : decode cX7_rotation 37 = .ok (.aload_n 0, 1) := by decide +kernel
theorem dX7_rotation_38 : decode cX7_rotation 38 = .ok (.iload_n 1, 1) := by decide +kernel
theorem dX7_rotation_39 : decode cX7_rotation 39 = .ok (.iload_n 3, 1) := by decide +kernel
theorem dX7_rotation_40 : decode cX7_rotation 40 = .ok (.invokevirtual 69, 3) := by decide +kernel
theorem dX7_rotation_43 : decode cX7_rotation 43 = .ok (.if_icmp .ge 27, 3) := by decide +kernel
theorem dX7_rotation_46 : decode cX7_rotation 46 = .ok (.aload_n 0, 1) := by decide +kernel
theorem dX7_rotation_47 : decode cX7_rotation 47 = .ok (.iload_n 1, 1) := by decide +kernel
theorem dX7_rotation_48 : decode cX7_rotation 48 = .ok (.iload_n 2, 1) := by decide +kernel
theorem dX7_rotation_49 : decode cX7_rotation 49 = .ok (.iload_n 3, 1) := by decide +kernel
theorem dX7_rotation_50 : decode cX7_rotation 50 = .ok (.iload 5, 2) := by decide +kernel
theorem dX7_rotation_52 : decode cX7_rotation 52 = .ok (.iload 4, 2) := by decide +kernel
theorem dX7_rotation_54 : decode cX7_rotation 54 = .ok (.invokevirtual 162, 3) := by decide +kernel
theorem dX7_rotation_57 : decode cX7_rotation 57 = .ok (.ifCond .eq 7, 3) := by decide +kernel
theorem dX7_rotation_60 : decode cX7_rotation 60 = .ok (.iload 5, 2) := by decide +kernel
theorem dX7_rotation_62 : decode cX7_rotation 62 = .ok (.istore 4, 2) := by decide +kernel
theorem dX7_rotation_64 : decode cX7_rotation 64 = .ok (.iinc 5 1, 3) := by decide +kernel
theorem dX7_rotation_67 : decode cX7_rotation 67 = .ok (.goto (-32), 3) := by decide +kernel
theorem dX7_rotation_70 : decode cX7_rotation 70 = .ok (.iload 4, 2) := by decide +kernel
theorem dX7_rotation_72 : decode cX7_rotation 72 = .ok (.ireturn, 1) := by decide +kernel
theorem dX7_lastOf_0 : decode cX7_lastOf 0 = .ok (.iconst 0, 1) := by decide +kernel
theorem dX7_lastOf_1 : decode cX7_lastOf 1 = .ok (.istore 5, 2) := by decide +kernel
theorem dX7_lastOf_3 : decode cX7_lastOf 3 = .ok (.iconst 1, 1) := by decide +kernel
theorem dX7_lastOf_4 : decode cX7_lastOf 4 = .ok (.istore 6, 2) := by decide +kernel
theorem dX7_lastOf_6 : decode cX7_lastOf 6 = .ok (.iload 6, 2) := by decide +kernel
theorem dX7_lastOf_8 : decode cX7_lastOf 8 = .ok (.iload 4, 2) := by decide +kernel
theorem dX7_lastOf_10 : decode cX7_lastOf 10 = .ok (.if_icmp .ge 29, 3) := by decide +kernel
theorem dX7_lastOf_13 : decode cX7_lastOf 13 = .ok (.aload_n 0, 1) := by decide +kernel
theorem dX7_lastOf_14 : decode cX7_lastOf 14 = .ok (.iload_n 1, 1) := by decide +kernel
theorem dX7_lastOf_15 : decode cX7_lastOf 15 = .ok (.iload_n 2, 1) := by decide +kernel
theorem dX7_lastOf_16 : decode cX7_lastOf 16 = .ok (.iload_n 3, 1) := by decide +kernel
theorem dX7_lastOf_17 : decode cX7_lastOf 17 = .ok (.iload 4, 2) := by decide +kernel
theorem dX7_lastOf_19 : decode cX7_lastOf 19 = .ok (.iload 6, 2) := by decide +kernel
theorem dX7_lastOf_21 : decode cX7_lastOf 21 = .ok (.iload 5, 2) := by decide +kernel
theorem dX7_lastOf_23 : decode cX7_lastOf 23 = .ok (.invokevirtual 154, 3) := by decide +kernel
theorem dX7_lastOf_26 : decode cX7_lastOf 26 = .ok (.ifCond .ge 7, 3) := by decide +kernel
theorem dX7_lastOf_29 : decode cX7_lastOf 29 = .ok (.iload 6, 2) := by decide +kernel
theorem dX7_lastOf_31 : decode cX7_lastOf 31 = .ok (.istore 5, 2) := by decide +kernel
theorem dX7_lastOf_33 : decode cX7_lastOf 33 = .ok (.iinc 6 1, 3) := by decide +kernel
theorem dX7_lastOf_36 : decode cX7_lastOf 36 = .ok (.goto (-30), 3) := by decide +kernel
theorem dX7_lastOf_39 : decode cX7_lastOf 39 = .ok (.iload 5, 2) := by decide +kernel
theorem dX7_lastOf_41 : decode cX7_lastOf 41 = .ok (.ireturn, 1) := by decide +kernel
theorem dX7_words_0 : decode cX7_words 0 = .ok (.iconst 0, 1) := by decide +kernel
theorem dX7_words_1 : decode cX7_words 1 = .ok (.istore 4, 2) := by decide +kernel
theorem dX7_words_3 : decode cX7_words 3 = .ok (.aload_n 0, 1) := by decide +kernel
theorem dX7_words_4 : decode cX7_words 4 = .ok (.iload_n 1, 1) := by decide +kernel
theorem dX7_words_5 : decode cX7_words 5 = .ok (.iload_n 3, 1) := by decide +kernel
theorem dX7_words_6 : decode cX7_words 6 = .ok (.invokevirtual 69, 3) := by decide +kernel
theorem dX7_words_9 : decode cX7_words 9 = .ok (.istore 5, 2) := by decide +kernel
theorem dX7_words_11 : decode cX7_words 11 = .ok (.iload 5, 2) := by decide +kernel
theorem dX7_words_13 : decode cX7_words 13 = .ok (.ifCond .le 20, 3) := by decide +kernel
theorem dX7_words_16 : decode cX7_words 16 = .ok (.iinc 4 1, 3) := by decide +kernel
theorem dX7_words_19 : decode cX7_words 19 = .ok (.aload_n 0, 1) := by decide +kernel
theorem dX7_words_20 : decode cX7_words 20 = .ok (.iload_n 1, 1) := by decide +kernel
theorem dX7_words_21 : decode cX7_words 21 = .ok (.iload_n 2, 1) := by decide +kernel
theorem dX7_words_22 : decode cX7_words 22 = .ok (.iload_n 3, 1) := by decide +kernel
theorem dX7_words_23 : decode cX7_words 23 = .ok (.iload 5, 2) := by decide +kernel
theorem dX7_words_25 : decode cX7_words 25 = .ok (.invokevirtual 166, 3) := by decide +kernel
theorem dX7_words_28 : decode cX7_words 28 = .ok (.istore 5, 2) := by decide +kernel
theorem dX7_words_30 : decode cX7_words 30 = .ok (.goto (-19), 3) := by decide +kernel
theorem dX7_words_33 : decode cX7_words 33 = .ok (.iload 4, 2) := by decide +kernel
theorem dX7_words_35 : decode cX7_words 35 = .ok (.ireturn, 1) := by decide +kernel
theorem dX7_factors_0 : decode cX7_factors 0 = .ok (.aload_n 0, 1) := by decide +kernel
theorem dX7_factors_1 : decode cX7_factors 1 = .ok (.aload_n 0, 1) := by decide +kernel
theorem dX7_factors_2 : decode cX7_factors 2 = .ok (.iload_n 1, 1) := by decide +kernel
theorem dX7_factors_3 : decode cX7_factors 3 = .ok (.iload_n 2, 1) := by decide +kernel
theorem dX7_factors_4 : decode cX7_factors 4 = .ok (.iload_n 3, 1) := by decide +kernel
theorem dX7_factors_5 : decode cX7_factors 5 = .ok (.invokevirtual 150, 3) := by decide +kernel
theorem dX7_factors_8 : decode cX7_factors 8 = .ok (.invokevirtual 73, 3) := by decide +kernel
theorem dX7_factors_11 : decode cX7_factors 11 = .ok (.ifCond .eq 7, 3) := by decide +kernel
theorem dX7_factors_14 : decode cX7_factors 14 = .ok (.iconst 0, 1) := by decide +kernel
theorem dX7_factors_15 : decode cX7_factors 15 = .ok (.goto 10, 3) := by decide +kernel
theorem dX7_factors_18 : decode cX7_factors 18 = .ok (.aload_n 0, 1) := by decide +kernel
theorem dX7_factors_19 : decode cX7_factors 19 = .ok (.iload_n 1, 1) := by decide +kernel
theorem dX7_factors_20 : decode cX7_factors 20 = .ok (.iload_n 2, 1) := by decide +kernel
theorem dX7_factors_21 : decode cX7_factors 21 = .ok (.iload_n 3, 1) := by decide +kernel
theorem dX7_factors_22 : decode cX7_factors 22 = .ok (.invokevirtual 169, 3) := by decide +kernel
theorem dX7_factors_25 : decode cX7_factors 25 = .ok (.ireturn, 1) := by decide +kernel
theorem dX7_factor_0 : decode cX7_factor 0 = .ok (.aload_n 0, 1) := by decide +kernel
theorem dX7_factor_1 : decode cX7_factor 1 = .ok (.iload_n 1, 1) := by decide +kernel
theorem dX7_factor_2 : decode cX7_factor 2 = .ok (.iload_n 2, 1) := by decide +kernel
theorem dX7_factor_3 : decode cX7_factor 3 = .ok (.iload_n 3, 1) := by decide +kernel
theorem dX7_factor_4 : decode cX7_factor 4 = .ok (.invokevirtual 150, 3) := by decide +kernel
theorem dX7_factor_7 : decode cX7_factor 7 = .ok (.istore 5, 2) := by decide +kernel
theorem dX7_factor_9 : decode cX7_factor 9 = .ok (.aload_n 0, 1) := by decide +kernel
theorem dX7_factor_10 : decode cX7_factor 10 = .ok (.iload 5, 2) := by decide +kernel
theorem dX7_factor_12 : decode cX7_factor 12 = .ok (.ifCond .le 8, 3) := by decide +kernel
theorem dX7_factor_15 : decode cX7_factor 15 = .ok (.iload 5, 2) := by decide +kernel
theorem dX7_factor_17 : decode cX7_factor 17 = .ok (.goto 28, 3) := by decide +kernel
theorem dX7_factor_20 : decode cX7_factor 20 = .ok (.iload 4, 2) := by decide +kernel
theorem dX7_factor_22 : decode cX7_factor 22 = .ok (.i2l, 1) := by decide +kernel
theorem dX7_factor_23 : decode cX7_factor 23 = .ok (.lconst 0, 1) := by decide +kernel
theorem dX7_factor_24 : decode cX7_factor 24 = .ok (.aload_n 0, 1) := by decide +kernel
theorem dX7_factor_25 : decode cX7_factor 25 = .ok (.iload_n 1, 1) := by decide +kernel
theorem dX7_factor_26 : decode cX7_factor 26 = .ok (.iload_n 2, 1) := by decide +kernel
theorem dX7_factor_27 : decode cX7_factor 27 = .ok (.iload_n 3, 1) := by decide +kernel
theorem dX7_factor_28 : decode cX7_factor 28 = .ok (.invokevirtual 169, 3) := by decide +kernel
theorem dX7_factor_31 : decode cX7_factor 31 = .ok (.iconst 1, 1) := by decide +kernel
theorem dX7_factor_32 : decode cX7_factor 32 = .ok (.isub, 1) := by decide +kernel
theorem dX7_factor_33 : decode cX7_factor 33 = .ok (.i2l, 1) := by decide +kernel
theorem dX7_factor_34 : decode cX7_factor 34 = .ok (.invokestatic 39, 3) := by decide +kernel
theorem dX7_factor_37 : decode cX7_factor 37 = .ok (.ifCond .eq 7, 3) := by decide +kernel
theorem dX7_factor_40 : decode cX7_factor 40 = .ok (.iconst 0, 1) := by decide +kernel
theorem dX7_factor_41 : decode cX7_factor 41 = .ok (.goto 4, 3) := by decide +kernel
theorem dX7_factor_44 : decode cX7_factor 44 = .ok (.iconst 2, 1) := by decide +kernel
theorem dX7_factor_45 : decode cX7_factor 45 = .ok (.invokevirtual 73, 3) := by decide +kernel
theorem dX7_factor_48 : decode cX7_factor 48 = .ok (.ifCond .eq 5, 3) := by decide +kernel
theorem dX7_factor_51 : decode cX7_factor 51 = .ok (.iconst 0, 1) := by decide +kernel
theorem dX7_factor_52 : decode cX7_factor 52 = .ok (.ireturn, 1) := by decide +kernel
theorem dX7_factor_53 : decode cX7_factor 53 = .ok (.aload_n 0, 1) := by decide +kernel
theorem dX7_factor_54 : decode cX7_factor 54 = .ok (.iload_n 1, 1) := by decide +kernel
theorem dX7_factor_55 : decode cX7_factor 55 = .ok (.iload_n 3, 1) := by decide +kernel
theorem dX7_factor_56 : decode cX7_factor 56 = .ok (.invokevirtual 69, 3) := by decide +kernel
theorem dX7_factor_59 : decode cX7_factor 59 = .ok (.istore 6, 2) := by decide +kernel
theorem dX7_factor_61 : decode cX7_factor 61 = .ok (.aload_n 0, 1) := by decide +kernel
theorem dX7_factor_62 : decode cX7_factor 62 = .ok (.iload_n 1, 1) := by decide +kernel
theorem dX7_factor_63 : decode cX7_factor 63 = .ok (.iload_n 2, 1) := by decide +kernel
theorem dX7_factor_64 : decode cX7_factor 64 = .ok (.iload_n 3, 1) := by decide +kernel
theorem dX7_factor_65 : decode cX7_factor 65 = .ok (.invokevirtual 169, 3) := by decide +kernel
theorem dX7_factor_68 : decode cX7_factor 68 = .ok (.istore 7, 2) := by decide +kernel
theorem dX7_factor_70 : decode cX7_factor 70 = .ok (.iload 7, 2) := by decide +kernel
theorem dX7_factor_72 : decode cX7_factor 72 = .ok (.iload 4, 2) := by decide +kernel
theorem dX7_factor_74 : decode cX7_factor 74 = .ok (.if_icmp .le 20, 3) := by decide +kernel
theorem dX7_factor_77 : decode cX7_factor 77 = .ok (.aload_n 0, 1) := by decide +kernel
theorem dX7_factor_78 : decode cX7_factor 78 = .ok (.iload_n 1, 1) := by decide +kernel
theorem dX7_factor_79 : decode cX7_factor 79 = .ok (.iload_n 2, 1) := by decide +kernel
theorem dX7_factor_80 : decode cX7_factor 80 = .ok (.iload_n 3, 1) := by decide +kernel
theorem dX7_factor_81 : decode cX7_factor 81 = .ok (.iload 6, 2) := by decide +kernel
theorem dX7_factor_83 : decode cX7_factor 83 = .ok (.invokevirtual 166, 3) := by decide +kernel
theorem dX7_factor_86 : decode cX7_factor 86 = .ok (.istore 6, 2) := by decide +kernel
theorem dX7_factor_88 : decode cX7_factor 88 = .ok (.iinc 7 (-1), 3) := by decide +kernel
theorem dX7_factor_91 : decode cX7_factor 91 = .ok (.goto (-21), 3) := by decide +kernel
theorem dX7_factor_94 : decode cX7_factor 94 = .ok (.iload 6, 2) := by decide +kernel
theorem dX7_factor_96 : decode cX7_factor 96 = .ok (.ireturn, 1) := by decide +kernel
theorem dX7_share_0 : decode cX7_share 0 = .ok (.iconst 0, 1) := by decide +kernel
theorem dX7_share_1 : decode cX7_share 1 = .ok (.istore_n 2, 1) := by decide +kernel
theorem dX7_share_2 : decode cX7_share 2 = .ok (.iconst 0, 1) := by decide +kernel
theorem dX7_share_3 : decode cX7_share 3 = .ok (.istore_n 3, 1) := by decide +kernel
theorem dX7_share_4 : decode cX7_share 4 = .ok (.iconst 0, 1) := by decide +kernel
theorem dX7_share_5 : decode cX7_share 5 = .ok (.istore 4, 2) := by decide +kernel
theorem dX7_share_7 : decode cX7_share 7 = .ok (.iload 4, 2) := by decide +kernel
theorem dX7_share_9 : decode cX7_share 9 = .ok (.bipush 12, 2) := by decide +kernel
theorem dX7_share_11 : decode cX7_share 11 = .ok (.if_icmp .ge 80, 3) := by decide +kernel
theorem dX7_share_14 : decode cX7_share 14 = .ok (.iload_n 1, 1) := by decide +kernel
theorem dX7_share_15 : decode cX7_share 15 = .ok (.invokestatic 57, 3) := by decide +kernel
theorem dX7_share_18 : decode cX7_share 18 = .ok (.ifCond .eq 73, 3) := by decide +kernel
theorem dX7_share_21 : decode cX7_share 21 = .ok (.aload_n 0, 1) := by decide +kernel
theorem dX7_share_22 : decode cX7_share 22 = .ok (.iload_n 1, 1) := by decide +kernel
theorem dX7_share_23 : decode cX7_share 23 = .ok (.iload 4, 2) := by decide +kernel
theorem dX7_share_25 : decode cX7_share 25 = .ok (.invokevirtual 110, 3) := by decide +kernel
theorem dX7_share_28 : decode cX7_share 28 = .ok (.ifCond .ne 6, 3) := by decide +kernel
theorem dX7_share_31 : decode cX7_share 31 = .ok (.goto 54, 3) := by decide +kernel
theorem dX7_share_34 : decode cX7_share 34 = .ok (.iinc 2 1, 3) := by decide +kernel
theorem dX7_share_37 : decode cX7_share 37 = .ok (.iconst 0, 1) := by decide +kernel
theorem dX7_share_38 : decode cX7_share 38 = .ok (.istore 5, 2) := by decide +kernel
theorem dX7_share_40 : decode cX7_share 40 = .ok (.iload 5, 2) := by decide +kernel
theorem dX7_share_42 : decode cX7_share 42 = .ok (.iload 4, 2) := by decide +kernel
theorem dX7_share_44 : decode cX7_share 44 = .ok (.if_icmp .ge 41, 3) := by decide +kernel
theorem dX7_share_47 : decode cX7_share 47 = .ok (.iload_n 3, 1) := by decide +kernel
theorem dX7_share_48 : decode cX7_share 48 = .ok (.aload_n 0, 1) := by decide +kernel
theorem dX7_share_49 : decode cX7_share 49 = .ok (.iload_n 1, 1) := by decide +kernel
theorem dX7_share_50 : decode cX7_share 50 = .ok (.iload 5, 2) := by decide +kernel
theorem dX7_share_52 : decode cX7_share 52 = .ok (.invokevirtual 110, 3) := by decide +kernel
theorem dX7_share_55 : decode cX7_share 55 = .ok (.ifCond .eq 21, 3) := by decide +kernel
theorem dX7_share_58 : decode cX7_share 58 = .ok (.aload_n 0, 1) := by decide +kernel
theorem dX7_share_59 : decode cX7_share 59 = .ok (.iload_n 1, 1) := by decide +kernel
theorem dX7_share_60 : decode cX7_share 60 = .ok (.bipush 115, 2) := by decide +kernel
theorem dX7_share_62 : decode cX7_share 62 = .ok (.iload 5, 2) := by decide +kernel
theorem dX7_share_64 : decode cX7_share 64 = .ok (.iload 4, 2) := by decide +kernel
theorem dX7_share_66 : decode cX7_share 66 = .ok (.invokevirtual 143, 3) := by decide +kernel
theorem dX7_share_69 : decode cX7_share 69 = .ok (.ifCond .ne 7, 3) := by decide +kernel
theorem dX7_share_72 : decode cX7_share 72 = .ok (.iconst 1, 1) := by decide +kernel
theorem dX7_share_73 : decode cX7_share 73 = .ok (.goto 4, 3) := by decide +kernel
theorem dX7_share_76 : decode cX7_share 76 = .ok (.iconst 0, 1) := by decide +kernel
theorem dX7_share_77 : decode cX7_share 77 = .ok (.iadd, 1) := by decide +kernel
theorem dX7_share_78 : decode cX7_share 78 = .ok (.istore_n 3, 1) := by decide +kernel
theorem dX7_share_79 : decode cX7_share 79 = .ok (.iinc 5 1, 3) := by decide +kernel
theorem dX7_share_82 : decode cX7_share 82 = .ok (.goto (-42), 3) := by decide +kernel
theorem dX7_share_85 : decode cX7_share 85 = .ok (.iinc 4 1, 3) := by decide +kernel
theorem dX7_share_88 : decode cX7_share 88 = .ok (.goto (-81), 3) := by decide +kernel
theorem dX7_share_91 : decode cX7_share 91 = .ok (.aload_n 0, 1) := by decide +kernel
theorem dX7_share_92 : decode cX7_share 92 = .ok (.iload_n 1, 1) := by decide +kernel
theorem dX7_share_93 : decode cX7_share 93 = .ok (.invokestatic 57, 3) := by decide +kernel
theorem dX7_share_96 : decode cX7_share 96 = .ok (.ifCond .ne 7, 3) := by decide +kernel
theorem dX7_share_99 : decode cX7_share 99 = .ok (.iconst 1, 1) := by decide +kernel
theorem dX7_share_100 : decode cX7_share 100 = .ok (.goto 13, 3) := by decide +kernel
theorem dX7_share_103 : decode cX7_share 103 = .ok (.iload_n 2, 1) := by decide +kernel
theorem dX7_share_104 : decode cX7_share 104 = .ok (.iconst 2, 1) := by decide +kernel
theorem dX7_share_105 : decode cX7_share 105 = .ok (.if_icmp .ge 7, 3) := by decide +kernel
theorem dX7_share_108 : decode cX7_share 108 = .ok (.iconst 2, 1) := by decide +kernel
theorem dX7_share_109 : decode cX7_share 109 = .ok (.goto 4, 3) := by decide +kernel
theorem dX7_share_112 : decode cX7_share 112 = .ok (.iconst 0, 1) := by decide +kernel
theorem dX7_share_113 : decode cX7_share 113 = .ok (.invokevirtual 73, 3) := by decide +kernel
theorem dX7_share_116 : decode cX7_share 116 = .ok (.ifCond .eq 5, 3) := by decide +kernel
theorem dX7_share_119 : decode cX7_share 119 = .ok (.fconst 0, 1) := by decide +kernel
theorem dX7_share_120 : decode cX7_share 120 = .ok (.freturn, 1) := by decide +kernel
theorem dX7_share_121 : decode cX7_share 121 = .ok (.iload_n 3, 1) := by decide +kernel
theorem dX7_share_122 : decode cX7_share 122 = .ok (.i2f, 1) := by decide +kernel
theorem dX7_share_123 : decode cX7_share 123 = .ok (.iload_n 2, 1) := by decide +kernel
theorem dX7_share_124 : decode cX7_share 124 = .ok (.iload_n 2, 1) := by decide +kernel
theorem dX7_share_125 : decode cX7_share 125 = .ok (.iconst 1, 1) := by decide +kernel
theorem dX7_share_126 : decode cX7_share 126 = .ok (.isub, 1) := by decide +kernel
theorem dX7_share_127 : decode cX7_share 127 = .ok (.imul, 1) := by decide +kernel
theorem dX7_share_128 : decode cX7_share 128 = .ok (.iconst 2, 1) := by decide +kernel
theorem dX7_share_129 : decode cX7_share 129 = .ok (.idiv, 1) := by decide +kernel
theorem dX7_share_130 : decode cX7_share 130 = .ok (.i2f, 1) := by decide +kernel
theorem dX7_share_131 : decode cX7_share 131 = .ok (.fdiv, 1) := by decide +kernel
theorem dX7_share_132 : decode cX7_share 132 = .ok (.freturn, 1) := by decide +kernel
theorem dX7_mean_0 : decode cX7_mean 0 = .ok (.aload_n 0, 1) := by decide +kernel
theorem dX7_mean_1 : decode cX7_mean 1 = .ok (.iload_n 1, 1) := by decide +kernel
theorem dX7_mean_2 : decode cX7_mean 2 = .ok (.invokestatic 57, 3) := by decide +kernel
theorem dX7_mean_5 : decode cX7_mean 5 = .ok (.ifCond .eq 7, 3) := by decide +kernel
theorem dX7_mean_8 : decode cX7_mean 8 = .ok (.iconst 0, 1) := by decide +kernel
theorem dX7_mean_9 : decode cX7_mean 9 = .ok (.goto 4, 3) := by decide +kernel
theorem dX7_mean_12 : decode cX7_mean 12 = .ok (.iconst 1, 1) := by decide +kernel
theorem dX7_mean_13 : decode cX7_mean 13 = .ok (.invokevirtual 73, 3) := by decide +kernel
theorem dX7_mean_16 : decode cX7_mean 16 = .ok (.ifCond .eq 5, 3) := by decide +kernel
theorem dX7_mean_19 : decode cX7_mean 19 = .ok (.dconst 0, 1) := by decide +kernel
theorem dX7_mean_20 : decode cX7_mean 20 = .ok (.dreturn, 1) := by decide +kernel
theorem dX7_mean_21 : decode cX7_mean 21 = .ok (.iconst 0, 1) := by decide +kernel
theorem dX7_mean_22 : decode cX7_mean 22 = .ok (.istore_n 2, 1) := by decide +kernel
theorem dX7_mean_23 : decode cX7_mean 23 = .ok (.iconst 0, 1) := by decide +kernel
theorem dX7_mean_24 : decode cX7_mean 24 = .ok (.istore_n 3, 1) := by decide +kernel
theorem dX7_mean_25 : decode cX7_mean 25 = .ok (.iload_n 3, 1) := by decide +kernel
theorem dX7_mean_26 : decode cX7_mean 26 = .ok (.iconst 4, 1) := by decide +kernel
theorem dX7_mean_27 : decode cX7_mean 27 = .ok (.if_icmp .ge 18, 3) := by decide +kernel
theorem dX7_mean_30 : decode cX7_mean 30 = .ok (.iload_n 2, 1) := by decide +kernel
theorem dX7_mean_31 : decode cX7_mean 31 = .ok (.aload_n 0, 1) := by decide +kernel
theorem dX7_mean_32 : decode cX7_mean 32 = .ok (.iload_n 1, 1) := by decide +kernel
theorem dX7_mean_33 : decode cX7_mean 33 = .ok (.iload_n 3, 1) := by decide +kernel
theorem dX7_mean_34 : decode cX7_mean 34 = .ok (.invokevirtual 69, 3) := by decide +kernel
theorem dX7_mean_37 : decode cX7_mean 37 = .ok (.iadd, 1) := by decide +kernel
theorem dX7_mean_38 : decode cX7_mean 38 = .ok (.istore_n 2, 1) := by decide +kernel
theorem dX7_mean_39 : decode cX7_mean 39 = .ok (.iinc 3 1, 3) := by decide +kernel
theorem dX7_mean_42 : decode cX7_mean 42 = .ok (.goto (-17), 3) := by decide +kernel
theorem dX7_mean_45 : decode cX7_mean 45 = .ok (.iload_n 2, 1) := by decide +kernel
theorem dX7_mean_46 : decode cX7_mean 46 = .ok (.i2d, 1) := by decide +kernel
theorem dX7_mean_47 : decode cX7_mean 47 = .ok (.ldc2_w 172, 3) := by decide +kernel
theorem dX7_mean_50 : decode cX7_mean 50 = .ok (.ddiv, 1) := by decide +kernel
theorem dX7_mean_51 : decode cX7_mean 51 = .ok (.dreturn, 1) := by decide +kernel
theorem dX7_checksum_0 : decode cX7_checksum 0 = .ok (.aload_n 0, 1) := by decide +kernel
theorem dX7_checksum_1 : decode cX7_checksum 1 = .ok (.iconst 0, 1) := by decide +kernel
theorem dX7_checksum_2 : decode cX7_checksum 2 = .ok (.putfield 29, 3) := by decide +kernel
theorem dX7_checksum_5 : decode cX7_checksum 5 = .ok (.ldc2_w 174, 3) := by decide +kernel
theorem dX7_checksum_8 : decode cX7_checksum 8 = .ok (.lstore_n 1, 1) := by decide +kernel
theorem dX7_checksum_9 : decode cX7_checksum 9 = .ok (.iconst 0, 1) := by decide +kernel
theorem dX7_checksum_10 : decode cX7_checksum 10 = .ok (.istore_n 3, 1) := by decide +kernel
theorem dX7_checksum_11 : decode cX7_checksum 11 = .ok (.iload_n 3, 1) := by decide +kernel
theorem dX7_checksum_12 : decode cX7_checksum 12 = .ok (.bipush 16, 2) := by decide +kernel
theorem dX7_checksum_14 : decode cX7_checksum 14 = .ok (.if_icmp .ge 62, 3) := by decide +kernel
theorem dX7_checksum_17 : decode cX7_checksum 17 = .ok (.ldc2_w 176, 3) := by decide +kernel
theorem dX7_checksum_20 : decode cX7_checksum 20 = .ok (.lload_n 1, 1) := by decide +kernel
theorem dX7_checksum_21 : decode cX7_checksum 21 = .ok (.lmul, 1) := by decide +kernel
theorem dX7_checksum_22 : decode cX7_checksum 22 = .ok (.aload_n 0, 1) := by decide +kernel
theorem dX7_checksum_23 : decode cX7_checksum 23 = .ok (.getfield 13, 3) := by decide +kernel
theorem dX7_checksum_26 : decode cX7_checksum 26 = .ok (.iload_n 3, 1) := by decide +kernel
theorem dX7_checksum_27 : decode cX7_checksum 27 = .ok (.iaload, 1) := by decide +kernel
theorem dX7_checksum_28 : decode cX7_checksum 28 = .ok (.i2l, 1) := by decide +kernel
theorem dX7_checksum_29 : decode cX7_checksum 29 = .ok (.ladd, 1) := by decide +kernel
theorem dX7_checksum_30 : decode cX7_checksum 30 = .ok (.lstore_n 1, 1) := by decide +kernel
theorem dX7_checksum_31 : decode cX7_checksum 31 = .ok (.iconst 0, 1) := by decide +kernel
theorem dX7_checksum_32 : decode cX7_checksum 32 = .ok (.istore 4, 2) := by decide +kernel
theorem dX7_checksum_34 : decode cX7_checksum 34 = .ok (.iload 4, 2) := by decide +kernel
theorem dX7_checksum_36 : decode cX7_checksum 36 = .ok (.aload_n 0, 1) := by decide +kernel
theorem dX7_checksum_37 : decode cX7_checksum 37 = .ok (.getfield 13, 3) := by decide +kernel
theorem dX7_checksum_40 : decode cX7_checksum 40 = .ok (.iload_n 3, 1) := by decide +kernel
theorem dX7_checksum_41 : decode cX7_checksum 41 = .ok (.iaload, 1) := by decide +kernel
theorem dX7_checksum_42 : decode cX7_checksum 42 = .ok (.if_icmp .ge 28, 3) := by decide +kernel
theorem dX7_checksum_45 : decode cX7_checksum 45 = .ok (.ldc2_w 176, 3) := by decide +kernel
theorem dX7_checksum_48 : decode cX7_checksum 48 = .ok (.lload_n 1, 1) := by decide +kernel
theorem dX7_checksum_49 : decode cX7_checksum 49 = .ok (.lmul, 1) := by decide +kernel
theorem dX7_checksum_50 : decode cX7_checksum 50 = .ok (.aload_n 0, 1) := by decide +kernel
theorem dX7_checksum_51 : decode cX7_checksum 51 = .ok (.getfield 7, 3) := by decide +kernel
theorem dX7_checksum_54 : decode cX7_checksum 54 = .ok (.bipush 32, 2) := by decide +kernel
theorem dX7_checksum_56 : decode cX7_checksum 56 = .ok (.iload_n 3, 1) := by decide +kernel
theorem dX7_checksum_57 : decode cX7_checksum 57 = .ok (.imul, 1) := by decide +kernel
theorem dX7_checksum_58 : decode cX7_checksum 58 = .ok (.iload 4, 2) := by decide +kernel
theorem dX7_checksum_60 : decode cX7_checksum 60 = .ok (.iadd, 1) := by decide +kernel
theorem dX7_checksum_61 : decode cX7_checksum 61 = .ok (.laload, 1) := by decide +kernel
theorem dX7_checksum_62 : decode cX7_checksum 62 = .ok (.ladd, 1) := by decide +kernel
theorem dX7_checksum_63 : decode cX7_checksum 63 = .ok (.lstore_n 1, 1) := by decide +kernel
theorem dX7_checksum_64 : decode cX7_checksum 64 = .ok (.iinc 4 1, 3) := by decide +kernel
theorem dX7_checksum_67 : decode cX7_checksum 67 = .ok (.goto (-33), 3) := by decide +kernel
theorem dX7_checksum_70 : decode cX7_checksum 70 = .ok (.iinc 3 1, 3) := by decide +kernel
theorem dX7_checksum_73 : decode cX7_checksum 73 = .ok (.goto (-62), 3) := by decide +kernel
theorem dX7_checksum_76 : decode cX7_checksum 76 = .ok (.iconst 0, 1) := by decide +kernel
theorem dX7_checksum_77 : decode cX7_checksum 77 = .ok (.istore_n 3, 1) := by decide +kernel
theorem dX7_checksum_78 : decode cX7_checksum 78 = .ok (.iload_n 3, 1) := by decide +kernel
theorem dX7_checksum_79 : decode cX7_checksum 79 = .ok (.bipush 12, 2) := by decide +kernel
theorem dX7_checksum_81 : decode cX7_checksum 81 = .ok (.if_icmp .ge 47, 3) := by decide +kernel
theorem dX7_checksum_84 : decode cX7_checksum 84 = .ok (.ldc2_w 176, 3) := by decide +kernel
theorem dX7_checksum_87 : decode cX7_checksum 87 = .ok (.ldc2_w 176, 3) := by decide +kernel
theorem dX7_checksum_90 : decode cX7_checksum 90 = .ok (.ldc2_w 176, 3) := by decide +kernel
theorem dX7_checksum_93 : decode cX7_checksum 93 = .ok (.lload_n 1, 1) := by decide +kernel
theorem dX7_checksum_94 : decode cX7_checksum 94 = .ok (.lmul, 1) := by decide +kernel
theorem dX7_checksum_95 : decode cX7_checksum 95 = .ok (.aload_n 0, 1) := by decide +kernel
theorem dX7_checksum_96 : decode cX7_checksum 96 = .ok (.getfield 17, 3) := by decide +kernel
theorem dX7_checksum_99 : decode cX7_checksum 99 = .ok (.iload_n 3, 1) := by decide +kernel
theorem dX7_checksum_100 : decode cX7_checksum 100 = .ok (.iaload, 1) := by decide +kernel
theorem dX7_checksum_101 : decode cX7_checksum 101 = .ok (.i2l, 1) := by decide +kernel
theorem dX7_checksum_102 : decode cX7_checksum 102 = .ok (.ladd, 1) := by decide +kernel
theorem dX7_checksum_103 : decode cX7_checksum 103 = .ok (.lmul, 1) := by decide +kernel
theorem dX7_checksum_104 : decode cX7_checksum 104 = .ok (.aload_n 0, 1) := by decide +kernel
theorem dX7_checksum_105 : decode cX7_checksum 105 = .ok (.getfield 20, 3) := by decide +kernel
theorem dX7_checksum_108 : decode cX7_checksum 108 = .ok (.iload_n 3, 1) := by decide +kernel
theorem dX7_checksum_109 : decode cX7_checksum 109 = .ok (.iaload, 1) := by decide +kernel
theorem dX7_checksum_110 : decode cX7_checksum 110 = .ok (.i2l, 1) := by decide +kernel
theorem dX7_checksum_111 : decode cX7_checksum 111 = .ok (.ladd, 1) := by decide +kernel
theorem dX7_checksum_112 : decode cX7_checksum 112 = .ok (.lmul, 1) := by decide +kernel
theorem dX7_checksum_113 : decode cX7_checksum 113 = .ok (.aload_n 0, 1) := by decide +kernel
theorem dX7_checksum_114 : decode cX7_checksum 114 = .ok (.getfield 23, 3) := by decide +kernel
theorem dX7_checksum_117 : decode cX7_checksum 117 = .ok (.iload_n 3, 1) := by decide +kernel
theorem dX7_checksum_118 : decode cX7_checksum 118 = .ok (.iaload, 1) := by decide +kernel
theorem dX7_checksum_119 : decode cX7_checksum 119 = .ok (.i2l, 1) := by decide +kernel
theorem dX7_checksum_120 : decode cX7_checksum 120 = .ok (.ladd, 1) := by decide +kernel
theorem dX7_checksum_121 : decode cX7_checksum 121 = .ok (.lstore_n 1, 1) := by decide +kernel
theorem dX7_checksum_122 : decode cX7_checksum 122 = .ok (.iinc 3 1, 3) := by decide +kernel
theorem dX7_checksum_125 : decode cX7_checksum 125 = .ok (.goto (-47), 3) := by decide +kernel
theorem dX7_checksum_128 : decode cX7_checksum 128 = .ok (.ldc2_w 176, 3) := by decide +kernel
theorem dX7_checksum_131 : decode cX7_checksum 131 = .ok (.lload_n 1, 1) := by decide +kernel
theorem dX7_checksum_132 : decode cX7_checksum 132 = .ok (.lmul, 1) := by decide +kernel
theorem dX7_checksum_133 : decode cX7_checksum 133 = .ok (.aload_n 0, 1) := by decide +kernel
theorem dX7_checksum_134 : decode cX7_checksum 134 = .ok (.getfield 147, 3) := by decide +kernel
theorem dX7_checksum_137 : decode cX7_checksum 137 = .ok (.i2l, 1) := by decide +kernel
theorem dX7_checksum_138 : decode cX7_checksum 138 = .ok (.ladd, 1) := by decide +kernel
theorem dX7_checksum_139 : decode cX7_checksum 139 = .ok (.lstore_n 1, 1) := by decide +kernel
theorem dX7_checksum_140 : decode cX7_checksum 140 = .ok (.iconst 0, 1) := by decide +kernel
theorem dX7_checksum_141 : decode cX7_checksum 141 = .ok (.istore_n 3, 1) := by decide +kernel
theorem dX7_checksum_142 : decode cX7_checksum 142 = .ok (.iload_n 3, 1) := by decide +kernel
theorem dX7_checksum_143 : decode cX7_checksum 143 = .ok (.aload_n 0, 1) := by decide +kernel
theorem dX7_checksum_144 : decode cX7_checksum 144 = .ok (.getfield 147, 3) := by decide +kernel
theorem dX7_checksum_147 : decode cX7_checksum 147 = .ok (.if_icmp .ge 23, 3) := by decide +kernel
theorem dX7_checksum_150 : decode cX7_checksum 150 = .ok (.ldc2_w 176, 3) := by decide +kernel
theorem dX7_checksum_153 : decode cX7_checksum 153 = .ok (.lload_n 1, 1) := by decide +kernel
theorem dX7_checksum_154 : decode cX7_checksum 154 = .ok (.lmul, 1) := by decide +kernel
theorem dX7_checksum_155 : decode cX7_checksum 155 = .ok (.aload_n 0, 1) := by decide +kernel
theorem dX7_checksum_156 : decode cX7_checksum 156 = .ok (.getfield 26, 3) := by decide +kernel
theorem dX7_checksum_159 : decode cX7_checksum 159 = .ok (.iload_n 3, 1) := by decide +kernel
theorem dX7_checksum_160 : decode cX7_checksum 160 = .ok (.iaload, 1) := by decide +kernel
theorem dX7_checksum_161 : decode cX7_checksum 161 = .ok (.i2l, 1) := by decide +kernel
theorem dX7_checksum_162 : decode cX7_checksum 162 = .ok (.ladd, 1) := by decide +kernel
theorem dX7_checksum_163 : decode cX7_checksum 163 = .ok (.lstore_n 1, 1) := by decide +kernel
theorem dX7_checksum_164 : decode cX7_checksum 164 = .ok (.iinc 3 1, 3) := by decide +kernel
theorem dX7_checksum_167 : decode cX7_checksum 167 = .ok (.goto (-25), 3) := by decide +kernel
theorem dX7_checksum_170 : decode cX7_checksum 170 = .ok (.lload_n 1, 1) := by decide +kernel
theorem dX7_checksum_171 : decode cX7_checksum 171 = .ok (.lreturn, 1) := by decide +kernel
theorem dX7_isTrue_0 : decode cX7_isTrue 0 = .ok (.aload_n 0, 1) := by decide +kernel
theorem dX7_isTrue_1 : decode cX7_isTrue 1 = .ok (.iload_n 1, 1) := by decide +kernel
theorem dX7_isTrue_2 : decode cX7_isTrue 2 = .ok (.invokestatic 57, 3) := by decide +kernel
theorem dX7_isTrue_5 : decode cX7_isTrue 5 = .ok (.iload_n 1, 1) := by decide +kernel
theorem dX7_isTrue_6 : decode cX7_isTrue 6 = .ok (.iload_n 2, 1) := by decide +kernel
theorem dX7_isTrue_7 : decode cX7_isTrue 7 = .ok (.iload_n 3, 1) := by decide +kernel
theorem dX7_isTrue_8 : decode cX7_isTrue 8 = .ok (.invokevirtual 129, 3) := by decide +kernel
theorem dX7_isTrue_11 : decode cX7_isTrue 11 = .ok (.istore 5, 2) := by decide +kernel
theorem dX7_isTrue_13 : decode cX7_isTrue 13 = .ok (.aload_n 0, 1) := by decide +kernel
theorem dX7_isTrue_14 : decode cX7_isTrue 14 = .ok (.iload_n 1, 1) := by decide +kernel
theorem dX7_isTrue_15 : decode cX7_isTrue 15 = .ok (.invokestatic 57, 3) := by decide +kernel
theorem dX7_isTrue_18 : decode cX7_isTrue 18 = .ok (.iload_n 1, 1) := by decide +kernel
theorem dX7_isTrue_19 : decode cX7_isTrue 19 = .ok (.iload 4, 2) := by decide +kernel
theorem dX7_isTrue_21 : decode cX7_isTrue 21 = .ok (.iload 4, 2) := by decide +kernel
theorem dX7_isTrue_23 : decode cX7_isTrue 23 = .ok (.invokevirtual 129, 3) := by decide +kernel
theorem dX7_isTrue_26 : decode cX7_isTrue 26 = .ok (.istore 6, 2) := by decide +kernel
theorem dX7_isTrue_28 : decode cX7_isTrue 28 = .ok (.aload_n 0, 1) := by decide +kernel
theorem dX7_isTrue_29 : decode cX7_isTrue 29 = .ok (.iload 5, 2) := by decide +kernel
theorem dX7_isTrue_31 : decode cX7_isTrue 31 = .ok (.ifCond .ne 8, 3) := by decide +kernel
theorem dX7_isTrue_34 : decode cX7_isTrue 34 = .ok (.iload 6, 2) := by decide +kernel
theorem dX7_isTrue_36 : decode cX7_isTrue 36 = .ok (.goto 27, 3) := by decide +kernel
theorem dX7_isTrue_39 : decode cX7_isTrue 39 = .ok (.iload 6, 2) := by decide +kernel
theorem dX7_isTrue_41 : decode cX7_isTrue 41 = .ok (.ifCond .ne 8, 3) := by decide +kernel
theorem dX7_isTrue_44 : decode cX7_isTrue 44 = .ok (.iload 5, 2) := by decide +kernel
theorem dX7_isTrue_46 : decode cX7_isTrue 46 = .ok (.goto 17, 3) := by decide +kernel
theorem dX7_isTrue_49 : decode cX7_isTrue 49 = .ok (.iload 5, 2) := by decide +kernel
theorem dX7_isTrue_51 : decode cX7_isTrue 51 = .ok (.iload 6, 2) := by decide +kernel
theorem dX7_isTrue_53 : decode cX7_isTrue 53 = .ok (.if_icmp .ge 8, 3) := by decide +kernel
theorem dX7_isTrue_56 : decode cX7_isTrue 56 = .ok (.iload 5, 2) := by decide +kernel
theorem dX7_isTrue_58 : decode cX7_isTrue 58 = .ok (.goto 5, 3) := by decide +kernel
theorem dX7_isTrue_61 : decode cX7_isTrue 61 = .ok (.iload 6, 2) := by decide +kernel
theorem dX7_isTrue_63 : decode cX7_isTrue 63 = .ok (.invokevirtual 73, 3) := by decide +kernel
theorem dX7_isTrue_66 : decode cX7_isTrue 66 = .ok (.ifCond .ne 7, 3) := by decide +kernel
theorem dX7_isTrue_69 : decode cX7_isTrue 69 = .ok (.iconst 1, 1) := by decide +kernel
theorem dX7_isTrue_70 : decode cX7_isTrue 70 = .ok (.goto 4, 3) := by decide +kernel
theorem dX7_isTrue_73 : decode cX7_isTrue 73 = .ok (.iconst 0, 1) := by decide +kernel
theorem dX7_isTrue_74 : decode cX7_isTrue 74 = .ok (.ireturn, 1) := by decide +kernel
theorem dX7_rowIsTrue_0 : decode cX7_rowIsTrue 0 = .ok (.aload_n 0, 1) := by decide +kernel
theorem dX7_rowIsTrue_1 : decode cX7_rowIsTrue 1 = .ok (.aload_n 0, 1) := by decide +kernel
theorem dX7_rowIsTrue_2 : decode cX7_rowIsTrue 2 = .ok (.iload_n 1, 1) := by decide +kernel
theorem dX7_rowIsTrue_3 : decode cX7_rowIsTrue 3 = .ok (.iload_n 2, 1) := by decide +kernel
theorem dX7_rowIsTrue_4 : decode cX7_rowIsTrue 4 = .ok (.iload_n 3, 1) := by decide +kernel
theorem dX7_rowIsTrue_5 : decode cX7_rowIsTrue 5 = .ok (.invokevirtual 150, 3) := by decide +kernel
theorem dX7_rowIsTrue_8 : decode cX7_rowIsTrue 8 = .ok (.invokevirtual 73, 3) := by decide +kernel
theorem dX7_rowIsTrue_11 : decode cX7_rowIsTrue 11 = .ok (.ifCond .ne 7, 3) := by decide +kernel
theorem dX7_rowIsTrue_14 : decode cX7_rowIsTrue 14 = .ok (.iconst 1, 1) := by decide +kernel
theorem dX7_rowIsTrue_15 : decode cX7_rowIsTrue 15 = .ok (.goto 4, 3) := by decide +kernel
theorem dX7_rowIsTrue_18 : decode cX7_rowIsTrue 18 = .ok (.iconst 0, 1) := by decide +kernel
theorem dX7_rowIsTrue_19 : decode cX7_rowIsTrue 19 = .ok (.ireturn, 1) := by decide +kernel
theorem dJ9_max_7cf53_0 : decode cJ9_max_7cf53 0 = .ok (.iload_n 0, 1) := by decide +kernel
theorem dJ9_max_7cf53_1 : decode cJ9_max_7cf53 1 = .ok (.iload_n 1, 1) := by decide +kernel
theorem dJ9_max_7cf53_2 : decode cJ9_max_7cf53 2 = .ok (.if_icmp .lt 7, 3) := by decide +kernel
theorem dJ9_max_7cf53_5 : decode cJ9_max_7cf53 5 = .ok (.iload_n 0, 1) := by decide +kernel
theorem dJ9_max_7cf53_6 : decode cJ9_max_7cf53 6 = .ok (.goto 4, 3) := by decide +kernel
theorem dJ9_max_7cf53_9 : decode cJ9_max_7cf53 9 = .ok (.iload_n 1, 1) := by decide +kernel
theorem dJ9_max_7cf53_10 : decode cJ9_max_7cf53 10 = .ok (.ireturn, 1) := by decide +kernel
theorem dJ9_min_7cf53_0 : decode cJ9_min_7cf53 0 = .ok (.iload_n 0, 1) := by decide +kernel
theorem dJ9_min_7cf53_1 : decode cJ9_min_7cf53 1 = .ok (.iload_n 1, 1) := by decide +kernel
theorem dJ9_min_7cf53_2 : decode cJ9_min_7cf53 2 = .ok (.if_icmp .gt 7, 3) := by decide +kernel
theorem dJ9_min_7cf53_5 : decode cJ9_min_7cf53 5 = .ok (.iload_n 0, 1) := by decide +kernel
theorem dJ9_min_7cf53_6 : decode cJ9_min_7cf53 6 = .ok (.goto 4, 3) := by decide +kernel
theorem dJ9_min_7cf53_9 : decode cJ9_min_7cf53 9 = .ok (.iload_n 1, 1) := by decide +kernel
theorem dJ9_min_7cf53_10 : decode cJ9_min_7cf53 10 = .ok (.ireturn, 1) := by decide +kernel
theorem dL_append_0 : decode cL_append 0 = .ok (.aload 5, 2) := by decide +kernel
theorem dL_append_2 : decode cL_append 2 = .ok (.iconst 0, 1) := by decide +kernel
theorem dL_append_3 : decode cL_append 3 = .ok (.aload_n 0, 1) := by decide +kernel
theorem dL_append_4 : decode cL_append 4 = .ok (.iload_n 1, 1) := by decide +kernel
theorem dL_append_5 : decode cL_append 5 = .ok (.iload_n 2, 1) := by decide +kernel
theorem dL_append_6 : decode cL_append 6 = .ok (.lload_n 3, 1) := by decide +kernel
theorem dL_append_7 : decode cL_append 7 = .ok (.invokevirtual 7, 3) := by decide +kernel
theorem dL_append_10 : decode cL_append 10 = .ok (.i2l, 1) := by decide +kernel
theorem dL_append_11 : decode cL_append 11 = .ok (.lastore, 1) := by decide +kernel
theorem dL_append_12 : decode cL_append 12 = .ok (.goto 15, 3) := by decide +kernel
theorem dL_append_15 : decode cL_append 15 = .ok (.astore 6, 2) := by decide +kernel
theorem dL_append_17 : decode cL_append 17 = .ok (.iconst 1, 1) := by decide +kernel
theorem dL_append_18 : decode cL_append 18 = .ok (.ireturn, 1) := by decide +kernel
theorem dL_append_19 : decode cL_append 19 = .ok (.astore 6, 2) := by decide +kernel
theorem dL_append_21 : decode cL_append 21 = .ok (.iconst 2, 1) := by decide +kernel
theorem dL_append_22 : decode cL_append 22 = .ok (.ireturn, 1) := by decide +kernel
theorem dL_append_23 : decode cL_append 23 = .ok (.astore 6, 2) := by decide +kernel
theorem dL_append_25 : decode cL_append 25 = .ok (.iconst 3, 1) := by decide +kernel
theorem dL_append_26 : decode cL_append 26 = .ok (.ireturn, 1) := by decide +kernel
theorem dL_append_27 : decode cL_append 27 = .ok (.iconst 0, 1) := by decide +kernel
theorem dL_append_28 : decode cL_append 28 = .ok (.ireturn, 1) := by decide +kernel
theorem dL_set_0 : decode cL_set 0 = .ok (.aload 6, 2) := by decide +kernel
theorem dL_set_2 : decode cL_set 2 = .ok (.iconst 0, 1) := by decide +kernel
theorem dL_set_3 : decode cL_set 3 = .ok (.aload_n 0, 1) := by decide +kernel
theorem dL_set_4 : decode cL_set 4 = .ok (.iload_n 1, 1) := by decide +kernel
theorem dL_set_5 : decode cL_set 5 = .ok (.iload_n 2, 1) := by decide +kernel
theorem dL_set_6 : decode cL_set 6 = .ok (.iload_n 3, 1) := by decide +kernel
theorem dL_set_7 : decode cL_set 7 = .ok (.lload 4, 2) := by decide +kernel
theorem dL_set_9 : decode cL_set 9 = .ok (.invokevirtual 19, 3) := by decide +kernel
theorem dL_set_12 : decode cL_set 12 = .ok (.lastore, 1) := by decide +kernel
theorem dL_set_13 : decode cL_set 13 = .ok (.goto 11, 3) := by decide +kernel
theorem dL_set_16 : decode cL_set 16 = .ok (.astore 7, 2) := by decide +kernel
theorem dL_set_18 : decode cL_set 18 = .ok (.iconst 1, 1) := by decide +kernel
theorem dL_set_19 : decode cL_set 19 = .ok (.ireturn, 1) := by decide +kernel
theorem dL_set_20 : decode cL_set 20 = .ok (.astore 7, 2) := by decide +kernel
theorem dL_set_22 : decode cL_set 22 = .ok (.iconst 2, 1) := by decide +kernel
theorem dL_set_23 : decode cL_set 23 = .ok (.ireturn, 1) := by decide +kernel
theorem dL_set_24 : decode cL_set 24 = .ok (.iconst 0, 1) := by decide +kernel
theorem dL_set_25 : decode cL_set 25 = .ok (.ireturn, 1) := by decide +kernel
theorem dL_number_0 : decode cL_number 0 = .ok (.aload 4, 2) := by decide +kernel
theorem dL_number_2 : decode cL_number 2 = .ok (.iconst 0, 1) := by decide +kernel
theorem dL_number_3 : decode cL_number 3 = .ok (.aload_n 0, 1) := by decide +kernel
theorem dL_number_4 : decode cL_number 4 = .ok (.iload_n 1, 1) := by decide +kernel
theorem dL_number_5 : decode cL_number 5 = .ok (.iload_n 2, 1) := by decide +kernel
theorem dL_number_6 : decode cL_number 6 = .ok (.iload_n 3, 1) := by decide +kernel
theorem dL_number_7 : decode cL_number 7 = .ok (.invokevirtual 23, 3) := by decide +kernel
theorem dL_number_10 : decode cL_number 10 = .ok (.lastore, 1) := by decide +kernel
theorem dL_number_11 : decode cL_number 11 = .ok (.goto 11, 3) := by decide +kernel
theorem dL_number_14 : decode cL_number 14 = .ok (.astore 5, 2) := by decide +kernel
theorem dL_number_16 : decode cL_number 16 = .ok (.iconst 1, 1) := by decide +kernel
theorem dL_number_17 : decode cL_number 17 = .ok (.ireturn, 1) := by decide +kernel
theorem dL_number_18 : decode cL_number 18 = .ok (.astore 5, 2) := by decide +kernel
theorem dL_number_20 : decode cL_number 20 = .ok (.iconst 2, 1) := by decide +kernel
theorem dL_number_21 : decode cL_number 21 = .ok (.ireturn, 1) := by decide +kernel
theorem dL_number_22 : decode cL_number 22 = .ok (.iconst 0, 1) := by decide +kernel
theorem dL_number_23 : decode cL_number 23 = .ok (.ireturn, 1) := by decide +kernel
theorem dL_length_0 : decode cL_length 0 = .ok (.aload_n 3, 1) := by decide +kernel
theorem dL_length_1 : decode cL_length 1 = .ok (.iconst 0, 1) := by decide +kernel
theorem dL_length_2 : decode cL_length 2 = .ok (.aload_n 0, 1) := by decide +kernel
theorem dL_length_3 : decode cL_length 3 = .ok (.iload_n 1, 1) := by decide +kernel
theorem dL_length_4 : decode cL_length 4 = .ok (.iload_n 2, 1) := by decide +kernel
theorem dL_length_5 : decode cL_length 5 = .ok (.invokevirtual 27, 3) := by decide +kernel
theorem dL_length_8 : decode cL_length 8 = .ok (.i2l, 1) := by decide +kernel
theorem dL_length_9 : decode cL_length 9 = .ok (.lastore, 1) := by decide +kernel
theorem dL_length_10 : decode cL_length 10 = .ok (.goto 11, 3) := by decide +kernel
theorem dL_length_13 : decode cL_length 13 = .ok (.astore 4, 2) := by decide +kernel
theorem dL_length_15 : decode cL_length 15 = .ok (.iconst 1, 1) := by decide +kernel
theorem dL_length_16 : decode cL_length 16 = .ok (.ireturn, 1) := by decide +kernel
theorem dL_length_17 : decode cL_length 17 = .ok (.astore 4, 2) := by decide +kernel
theorem dL_length_19 : decode cL_length 19 = .ok (.iconst 2, 1) := by decide +kernel
theorem dL_length_20 : decode cL_length 20 = .ok (.ireturn, 1) := by decide +kernel
theorem dL_length_21 : decode cL_length 21 = .ok (.iconst 0, 1) := by decide +kernel
theorem dL_length_22 : decode cL_length 22 = .ok (.ireturn, 1) := by decide +kernel
theorem dL_clear_0 : decode cL_clear 0 = .ok (.aload_n 3, 1) := by decide +kernel
theorem dL_clear_1 : decode cL_clear 1 = .ok (.iconst 0, 1) := by decide +kernel
theorem dL_clear_2 : decode cL_clear 2 = .ok (.aload_n 0, 1) := by decide +kernel
theorem dL_clear_3 : decode cL_clear 3 = .ok (.iload_n 1, 1) := by decide +kernel
theorem dL_clear_4 : decode cL_clear 4 = .ok (.iload_n 2, 1) := by decide +kernel
theorem dL_clear_5 : decode cL_clear 5 = .ok (.invokevirtual 31, 3) := by decide +kernel
theorem dL_clear_8 : decode cL_clear 8 = .ok (.i2l, 1) := by decide +kernel
theorem dL_clear_9 : decode cL_clear 9 = .ok (.lastore, 1) := by decide +kernel
theorem dL_clear_10 : decode cL_clear 10 = .ok (.goto 11, 3) := by decide +kernel
theorem dL_clear_13 : decode cL_clear 13 = .ok (.astore 4, 2) := by decide +kernel
theorem dL_clear_15 : decode cL_clear 15 = .ok (.iconst 1, 1) := by decide +kernel
theorem dL_clear_16 : decode cL_clear 16 = .ok (.ireturn, 1) := by decide +kernel
theorem dL_clear_17 : decode cL_clear 17 = .ok (.astore 4, 2) := by decide +kernel
theorem dL_clear_19 : decode cL_clear 19 = .ok (.iconst 2, 1) := by decide +kernel
theorem dL_clear_20 : decode cL_clear 20 = .ok (.ireturn, 1) := by decide +kernel
theorem dL_clear_21 : decode cL_clear 21 = .ok (.iconst 0, 1) := by decide +kernel
theorem dL_clear_22 : decode cL_clear 22 = .ok (.ireturn, 1) := by decide +kernel
theorem dL_repeat_0 : decode cL_repeat 0 = .ok (.aload 4, 2) := by decide +kernel
theorem dL_repeat_2 : decode cL_repeat 2 = .ok (.iconst 0, 1) := by decide +kernel
theorem dL_repeat_3 : decode cL_repeat 3 = .ok (.aload_n 0, 1) := by decide +kernel
theorem dL_repeat_4 : decode cL_repeat 4 = .ok (.iload_n 1, 1) := by decide +kernel
theorem dL_repeat_5 : decode cL_repeat 5 = .ok (.iload_n 2, 1) := by decide +kernel
theorem dL_repeat_6 : decode cL_repeat 6 = .ok (.iload_n 3, 1) := by decide +kernel
theorem dL_repeat_7 : decode cL_repeat 7 = .ok (.invokevirtual 34, 3) := by decide +kernel
theorem dL_repeat_10 : decode cL_repeat 10 = .ok (.i2l, 1) := by decide +kernel
theorem dL_repeat_11 : decode cL_repeat 11 = .ok (.lastore, 1) := by decide +kernel
theorem dL_repeat_12 : decode cL_repeat 12 = .ok (.goto 15, 3) := by decide +kernel
theorem dL_repeat_15 : decode cL_repeat 15 = .ok (.astore 5, 2) := by decide +kernel
theorem dL_repeat_17 : decode cL_repeat 17 = .ok (.iconst 1, 1) := by decide +kernel
theorem dL_repeat_18 : decode cL_repeat 18 = .ok (.ireturn, 1) := by decide +kernel
theorem dL_repeat_19 : decode cL_repeat 19 = .ok (.astore 5, 2) := by decide +kernel
theorem dL_repeat_21 : decode cL_repeat 21 = .ok (.iconst 2, 1) := by decide +kernel
theorem dL_repeat_22 : decode cL_repeat 22 = .ok (.ireturn, 1) := by decide +kernel
theorem dL_repeat_23 : decode cL_repeat 23 = .ok (.astore 5, 2) := by decide +kernel
theorem dL_repeat_25 : decode cL_repeat 25 = .ok (.iconst 3, 1) := by decide +kernel
theorem dL_repeat_26 : decode cL_repeat 26 = .ok (.ireturn, 1) := by decide +kernel
theorem dL_repeat_27 : decode cL_repeat 27 = .ok (.iconst 0, 1) := by decide +kernel
theorem dL_repeat_28 : decode cL_repeat 28 = .ok (.ireturn, 1) := by decide +kernel
theorem dL_reverse_0 : decode cL_reverse 0 = .ok (.aload_n 3, 1) := by decide +kernel
theorem dL_reverse_1 : decode cL_reverse 1 = .ok (.iconst 0, 1) := by decide +kernel
theorem dL_reverse_2 : decode cL_reverse 2 = .ok (.aload_n 0, 1) := by decide +kernel
theorem dL_reverse_3 : decode cL_reverse 3 = .ok (.iload_n 1, 1) := by decide +kernel
theorem dL_reverse_4 : decode cL_reverse 4 = .ok (.iload_n 2, 1) := by decide +kernel
theorem dL_reverse_5 : decode cL_reverse 5 = .ok (.invokevirtual 38, 3) := by decide +kernel
theorem dL_reverse_8 : decode cL_reverse 8 = .ok (.i2l, 1) := by decide +kernel
theorem dL_reverse_9 : decode cL_reverse 9 = .ok (.lastore, 1) := by decide +kernel
theorem dL_reverse_10 : decode cL_reverse 10 = .ok (.goto 11, 3) := by decide +kernel
theorem dL_reverse_13 : decode cL_reverse 13 = .ok (.astore 4, 2) := by decide +kernel
theorem dL_reverse_15 : decode cL_reverse 15 = .ok (.iconst 1, 1) := by decide +kernel
theorem dL_reverse_16 : decode cL_reverse 16 = .ok (.ireturn, 1) := by decide +kernel
theorem dL_reverse_17 : decode cL_reverse 17 = .ok (.astore 4, 2) := by decide +kernel
theorem dL_reverse_19 : decode cL_reverse 19 = .ok (.iconst 2, 1) := by decide +kernel
theorem dL_reverse_20 : decode cL_reverse 20 = .ok (.ireturn, 1) := by decide +kernel
theorem dL_reverse_21 : decode cL_reverse 21 = .ok (.iconst 0, 1) := by decide +kernel
theorem dL_reverse_22 : decode cL_reverse 22 = .ok (.ireturn, 1) := by decide +kernel
theorem dL_cut_0 : decode cL_cut 0 = .ok (.aload 5, 2) := by decide +kernel
theorem dL_cut_2 : decode cL_cut 2 = .ok (.iconst 0, 1) := by decide +kernel
theorem dL_cut_3 : decode cL_cut 3 = .ok (.aload_n 0, 1) := by decide +kernel
theorem dL_cut_4 : decode cL_cut 4 = .ok (.iload_n 1, 1) := by decide +kernel
theorem dL_cut_5 : decode cL_cut 5 = .ok (.iload_n 2, 1) := by decide +kernel
theorem dL_cut_6 : decode cL_cut 6 = .ok (.iload_n 3, 1) := by decide +kernel
theorem dL_cut_7 : decode cL_cut 7 = .ok (.iload 4, 2) := by decide +kernel
theorem dL_cut_9 : decode cL_cut 9 = .ok (.invokevirtual 41, 3) := by decide +kernel
theorem dL_cut_12 : decode cL_cut 12 = .ok (.i2l, 1) := by decide +kernel
theorem dL_cut_13 : decode cL_cut 13 = .ok (.lastore, 1) := by decide +kernel
theorem dL_cut_14 : decode cL_cut 14 = .ok (.goto 11, 3) := by decide +kernel
theorem dL_cut_17 : decode cL_cut 17 = .ok (.astore 6, 2) := by decide +kernel
theorem dL_cut_19 : decode cL_cut 19 = .ok (.iconst 1, 1) := by decide +kernel
theorem dL_cut_20 : decode cL_cut 20 = .ok (.ireturn, 1) := by decide +kernel
theorem dL_cut_21 : decode cL_cut 21 = .ok (.astore 6, 2) := by decide +kernel
theorem dL_cut_23 : decode cL_cut 23 = .ok (.iconst 2, 1) := by decide +kernel
theorem dL_cut_24 : decode cL_cut 24 = .ok (.ireturn, 1) := by decide +kernel
theorem dL_cut_25 : decode cL_cut 25 = .ok (.iconst 0, 1) := by decide +kernel
theorem dL_cut_26 : decode cL_cut 26 = .ok (.ireturn, 1) := by decide +kernel
theorem dL_convert_0 : decode cL_convert 0 = .ok (.aload 6, 2) := by decide +kernel
theorem dL_convert_2 : decode cL_convert 2 = .ok (.iconst 0, 1) := by decide +kernel
theorem dL_convert_3 : decode cL_convert 3 = .ok (.aload_n 0, 1) := by decide +kernel
theorem dL_convert_4 : decode cL_convert 4 = .ok (.iload_n 1, 1) := by decide +kernel
theorem dL_convert_5 : decode cL_convert 5 = .ok (.iload_n 2, 1) := by decide +kernel
theorem dL_convert_6 : decode cL_convert 6 = .ok (.iload_n 3, 1) := by decide +kernel
theorem dL_convert_7 : decode cL_convert 7 = .ok (.iload 4, 2) := by decide +kernel
theorem dL_convert_9 : decode cL_convert 9 = .ok (.iload 5, 2) := by decide +kernel
theorem dL_convert_11 : decode cL_convert 11 = .ok (.invokevirtual 45, 3) := by decide +kernel
theorem dL_convert_14 : decode cL_convert 14 = .ok (.i2l, 1) := by decide +kernel
theorem dL_convert_15 : decode cL_convert 15 = .ok (.lastore, 1) := by decide +kernel
theorem dL_convert_16 : decode cL_convert 16 = .ok (.goto 15, 3) := by decide +kernel
theorem dL_convert_19 : decode cL_convert 19 = .ok (.astore 7, 2) := by decide +kernel
theorem dL_convert_21 : decode cL_convert 21 = .ok (.iconst 1, 1) := by decide +kernel
theorem dL_convert_22 : decode cL_convert 22 = .ok (.ireturn, 1) := by decide +kernel
theorem dL_convert_23 : decode cL_convert 23 = .ok (.astore 7, 2) := by decide +kernel
theorem dL_convert_25 : decode cL_convert 25 = .ok (.iconst 2, 1) := by decide +kernel
theorem dL_convert_26 : decode cL_convert 26 = .ok (.ireturn, 1) := by decide +kernel
theorem dL_convert_27 : decode cL_convert 27 = .ok (.astore 7, 2) := by decide +kernel
theorem dL_convert_29 : decode cL_convert 29 = .ok (.iconst 3, 1) := by decide +kernel
theorem dL_convert_30 : decode cL_convert 30 = .ok (.ireturn, 1) := by decide +kernel
theorem dL_convert_31 : decode cL_convert 31 = .ok (.iconst 0, 1) := by decide +kernel
theorem dL_convert_32 : decode cL_convert 32 = .ok (.ireturn, 1) := by decide +kernel
theorem dL_span_0 : decode cL_span 0 = .ok (.aload 5, 2) := by decide +kernel
theorem dL_span_2 : decode cL_span 2 = .ok (.iconst 0, 1) := by decide +kernel
theorem dL_span_3 : decode cL_span 3 = .ok (.aload_n 0, 1) := by decide +kernel
theorem dL_span_4 : decode cL_span 4 = .ok (.iload_n 1, 1) := by decide +kernel
theorem dL_span_5 : decode cL_span 5 = .ok (.iload_n 2, 1) := by decide +kernel
theorem dL_span_6 : decode cL_span 6 = .ok (.iload_n 3, 1) := by decide +kernel
theorem dL_span_7 : decode cL_span 7 = .ok (.iload 4, 2) := by decide +kernel
theorem dL_span_9 : decode cL_span 9 = .ok (.invokevirtual 49, 3) := by decide +kernel
theorem dL_span_12 : decode cL_span 12 = .ok (.i2l, 1) := by decide +kernel
theorem dL_span_13 : decode cL_span 13 = .ok (.lastore, 1) := by decide +kernel
theorem dL_span_14 : decode cL_span 14 = .ok (.goto 11, 3) := by decide +kernel
theorem dL_span_17 : decode cL_span 17 = .ok (.astore 6, 2) := by decide +kernel
theorem dL_span_19 : decode cL_span 19 = .ok (.iconst 1, 1) := by decide +kernel
theorem dL_span_20 : decode cL_span 20 = .ok (.ireturn, 1) := by decide +kernel
theorem dL_span_21 : decode cL_span 21 = .ok (.astore 6, 2) := by decide +kernel
theorem dL_span_23 : decode cL_span 23 = .ok (.iconst 2, 1) := by decide +kernel
theorem dL_span_24 : decode cL_span 24 = .ok (.ireturn, 1) := by decide +kernel
theorem dL_span_25 : decode cL_span 25 = .ok (.iconst 0, 1) := by decide +kernel
theorem dL_span_26 : decode cL_span 26 = .ok (.ireturn, 1) := by decide +kernel
theorem dL_tells_0 : decode cL_tells 0 = .ok (.aload_n 3, 1) := by decide +kernel
theorem dL_tells_1 : decode cL_tells 1 = .ok (.iconst 0, 1) := by decide +kernel
theorem dL_tells_2 : decode cL_tells 2 = .ok (.aload_n 0, 1) := by decide +kernel
theorem dL_tells_3 : decode cL_tells 3 = .ok (.iload_n 1, 1) := by decide +kernel
theorem dL_tells_4 : decode cL_tells 4 = .ok (.iload_n 2, 1) := by decide +kernel
theorem dL_tells_5 : decode cL_tells 5 = .ok (.invokevirtual 53, 3) := by decide +kernel
theorem dL_tells_8 : decode cL_tells 8 = .ok (.i2l, 1) := by decide +kernel
theorem dL_tells_9 : decode cL_tells 9 = .ok (.lastore, 1) := by decide +kernel
theorem dL_tells_10 : decode cL_tells 10 = .ok (.goto 11, 3) := by decide +kernel
theorem dL_tells_13 : decode cL_tells 13 = .ok (.astore 4, 2) := by decide +kernel
theorem dL_tells_15 : decode cL_tells 15 = .ok (.iconst 1, 1) := by decide +kernel
theorem dL_tells_16 : decode cL_tells 16 = .ok (.ireturn, 1) := by decide +kernel
theorem dL_tells_17 : decode cL_tells 17 = .ok (.astore 4, 2) := by decide +kernel
theorem dL_tells_19 : decode cL_tells 19 = .ok (.iconst 2, 1) := by decide +kernel
theorem dL_tells_20 : decode cL_tells 20 = .ok (.ireturn, 1) := by decide +kernel
theorem dL_tells_21 : decode cL_tells 21 = .ok (.iconst 0, 1) := by decide +kernel
theorem dL_tells_22 : decode cL_tells 22 = .ok (.ireturn, 1) := by decide +kernel
theorem dL_fits_0 : decode cL_fits 0 = .ok (.aload_n 3, 1) := by decide +kernel
theorem dL_fits_1 : decode cL_fits 1 = .ok (.iconst 0, 1) := by decide +kernel
theorem dL_fits_2 : decode cL_fits 2 = .ok (.aload_n 0, 1) := by decide +kernel
theorem dL_fits_3 : decode cL_fits 3 = .ok (.iload_n 1, 1) := by decide +kernel
theorem dL_fits_4 : decode cL_fits 4 = .ok (.iload_n 2, 1) := by decide +kernel
theorem dL_fits_5 : decode cL_fits 5 = .ok (.invokevirtual 57, 3) := by decide +kernel
theorem dL_fits_8 : decode cL_fits 8 = .ok (.ifCond .eq 7, 3) := by decide +kernel
theorem dL_fits_11 : decode cL_fits 11 = .ok (.lconst 1, 1) := by decide +kernel
theorem dL_fits_12 : decode cL_fits 12 = .ok (.goto 4, 3) := by decide +kernel
theorem dL_fits_15 : decode cL_fits 15 = .ok (.lconst 0, 1) := by decide +kernel
theorem dL_fits_16 : decode cL_fits 16 = .ok (.lastore, 1) := by decide +kernel
theorem dL_fits_17 : decode cL_fits 17 = .ok (.goto 11, 3) := by decide +kernel
theorem dL_fits_20 : decode cL_fits 20 = .ok (.astore 4, 2) := by decide +kernel
theorem dL_fits_22 : decode cL_fits 22 = .ok (.iconst 1, 1) := by decide +kernel
theorem dL_fits_23 : decode cL_fits 23 = .ok (.ireturn, 1) := by decide +kernel
theorem dL_fits_24 : decode cL_fits 24 = .ok (.astore 4, 2) := by decide +kernel
theorem dL_fits_26 : decode cL_fits 26 = .ok (.iconst 2, 1) := by decide +kernel
theorem dL_fits_27 : decode cL_fits 27 = .ok (.ireturn, 1) := by decide +kernel
theorem dL_fits_28 : decode cL_fits 28 = .ok (.iconst 0, 1) := by decide +kernel
theorem dL_fits_29 : decode cL_fits 29 = .ok (.ireturn, 1) := by decide +kernel
theorem dL_asks_0 : decode cL_asks 0 = .ok (.aload 5, 2) := by decide +kernel
theorem dL_asks_2 : decode cL_asks 2 = .ok (.iconst 0, 1) := by decide +kernel
theorem dL_asks_3 : decode cL_asks 3 = .ok (.aload_n 0, 1) := by decide +kernel
theorem dL_asks_4 : decode cL_asks 4 = .ok (.iload_n 1, 1) := by decide +kernel
theorem dL_asks_5 : decode cL_asks 5 = .ok (.iload_n 2, 1) := by decide +kernel
theorem dL_asks_6 : decode cL_asks 6 = .ok (.iload_n 3, 1) := by decide +kernel
theorem dL_asks_7 : decode cL_asks 7 = .ok (.iload 4, 2) := by decide +kernel
theorem dL_asks_9 : decode cL_asks 9 = .ok (.invokevirtual 61, 3) := by decide +kernel
theorem dL_asks_12 : decode cL_asks 12 = .ok (.i2l, 1) := by decide +kernel
theorem dL_asks_13 : decode cL_asks 13 = .ok (.lastore, 1) := by decide +kernel
theorem dL_asks_14 : decode cL_asks 14 = .ok (.goto 15, 3) := by decide +kernel
theorem dL_asks_17 : decode cL_asks 17 = .ok (.astore 6, 2) := by decide +kernel
theorem dL_asks_19 : decode cL_asks 19 = .ok (.iconst 1, 1) := by decide +kernel
theorem dL_asks_20 : decode cL_asks 20 = .ok (.ireturn, 1) := by decide +kernel
theorem dL_asks_21 : decode cL_asks 21 = .ok (.astore 6, 2) := by decide +kernel
theorem dL_asks_23 : decode cL_asks 23 = .ok (.iconst 2, 1) := by decide +kernel
theorem dL_asks_24 : decode cL_asks 24 = .ok (.ireturn, 1) := by decide +kernel
theorem dL_asks_25 : decode cL_asks 25 = .ok (.astore 6, 2) := by decide +kernel
theorem dL_asks_27 : decode cL_asks 27 = .ok (.iconst 3, 1) := by decide +kernel
theorem dL_asks_28 : decode cL_asks 28 = .ok (.ireturn, 1) := by decide +kernel
theorem dL_asks_29 : decode cL_asks 29 = .ok (.iconst 0, 1) := by decide +kernel
theorem dL_asks_30 : decode cL_asks 30 = .ok (.ireturn, 1) := by decide +kernel
theorem dL_asksRows_0 : decode cL_asksRows 0 = .ok (.aload 5, 2) := by decide +kernel
theorem dL_asksRows_2 : decode cL_asksRows 2 = .ok (.iconst 0, 1) := by decide +kernel
theorem dL_asksRows_3 : decode cL_asksRows 3 = .ok (.aload_n 0, 1) := by decide +kernel
theorem dL_asksRows_4 : decode cL_asksRows 4 = .ok (.iload_n 1, 1) := by decide +kernel
theorem dL_asksRows_5 : decode cL_asksRows 5 = .ok (.iload_n 2, 1) := by decide +kernel
theorem dL_asksRows_6 : decode cL_asksRows 6 = .ok (.iload_n 3, 1) := by decide +kernel
theorem dL_asksRows_7 : decode cL_asksRows 7 = .ok (.iload 4, 2) := by decide +kernel
theorem dL_asksRows_9 : decode cL_asksRows 9 = .ok (.invokevirtual 65, 3) := by decide +kernel
theorem dL_asksRows_12 : decode cL_asksRows 12 = .ok (.i2l, 1) := by decide +kernel
theorem dL_asksRows_13 : decode cL_asksRows 13 = .ok (.lastore, 1) := by decide +kernel
theorem dL_asksRows_14 : decode cL_asksRows 14 = .ok (.goto 11, 3) := by decide +kernel
theorem dL_asksRows_17 : decode cL_asksRows 17 = .ok (.astore 6, 2) := by decide +kernel
theorem dL_asksRows_19 : decode cL_asksRows 19 = .ok (.iconst 1, 1) := by decide +kernel
theorem dL_asksRows_20 : decode cL_asksRows 20 = .ok (.ireturn, 1) := by decide +kernel
theorem dL_asksRows_21 : decode cL_asksRows 21 = .ok (.astore 6, 2) := by decide +kernel
theorem dL_asksRows_23 : decode cL_asksRows 23 = .ok (.iconst 2, 1) := by decide +kernel
theorem dL_asksRows_24 : decode cL_asksRows 24 = .ok (.ireturn, 1) := by decide +kernel
theorem dL_asksRows_25 : decode cL_asksRows 25 = .ok (.iconst 0, 1) := by decide +kernel
theorem dL_asksRows_26 : decode cL_asksRows 26 = .ok (.ireturn, 1) := by decide +kernel
theorem dL_refused_0 : decode cL_refused 0 = .ok (.aload 6, 2) := by decide +kernel
theorem dL_refused_2 : decode cL_refused 2 = .ok (.iconst 0, 1) := by decide +kernel
theorem dL_refused_3 : decode cL_refused 3 = .ok (.aload_n 0, 1) := by decide +kernel
theorem dL_refused_4 : decode cL_refused 4 = .ok (.iload_n 1, 1) := by decide +kernel
theorem dL_refused_5 : decode cL_refused 5 = .ok (.iload_n 2, 1) := by decide +kernel
theorem dL_refused_6 : decode cL_refused 6 = .ok (.iload_n 3, 1) := by decide +kernel
theorem dL_refused_7 : decode cL_refused 7 = .ok (.iload 4, 2) := by decide +kernel
theorem dL_refused_9 : decode cL_refused 9 = .ok (.iload 5, 2) := by decide +kernel
theorem dL_refused_11 : decode cL_refused 11 = .ok (.invokevirtual 68, 3) := by decide +kernel
theorem dL_refused_14 : decode cL_refused 14 = .ok (.i2l, 1) := by decide +kernel
theorem dL_refused_15 : decode cL_refused 15 = .ok (.lastore, 1) := by decide +kernel
theorem dL_refused_16 : decode cL_refused 16 = .ok (.goto 11, 3) := by decide +kernel
theorem dL_refused_19 : decode cL_refused 19 = .ok (.astore 7, 2) := by decide +kernel
theorem dL_refused_21 : decode cL_refused 21 = .ok (.iconst 1, 1) := by decide +kernel
theorem dL_refused_22 : decode cL_refused 22 = .ok (.ireturn, 1) := by decide +kernel
theorem dL_refused_23 : decode cL_refused 23 = .ok (.astore 7, 2) := by decide +kernel
theorem dL_refused_25 : decode cL_refused 25 = .ok (.iconst 2, 1) := by decide +kernel
theorem dL_refused_26 : decode cL_refused 26 = .ok (.ireturn, 1) := by decide +kernel
theorem dL_refused_27 : decode cL_refused 27 = .ok (.iconst 0, 1) := by decide +kernel
theorem dL_refused_28 : decode cL_refused 28 = .ok (.ireturn, 1) := by decide +kernel
theorem dL_common_0 : decode cL_common 0 = .ok (.aload 4, 2) := by decide +kernel
theorem dL_common_2 : decode cL_common 2 = .ok (.iconst 0, 1) := by decide +kernel
theorem dL_common_3 : decode cL_common 3 = .ok (.aload_n 0, 1) := by decide +kernel
theorem dL_common_4 : decode cL_common 4 = .ok (.iload_n 1, 1) := by decide +kernel
theorem dL_common_5 : decode cL_common 5 = .ok (.iload_n 2, 1) := by decide +kernel
theorem dL_common_6 : decode cL_common 6 = .ok (.iload_n 3, 1) := by decide +kernel
theorem dL_common_7 : decode cL_common 7 = .ok (.invokevirtual 72, 3) := by decide +kernel
theorem dL_common_10 : decode cL_common 10 = .ok (.i2l, 1) := by decide +kernel
theorem dL_common_11 : decode cL_common 11 = .ok (.lastore, 1) := by decide +kernel
theorem dL_common_12 : decode cL_common 12 = .ok (.goto 15, 3) := by decide +kernel
theorem dL_common_15 : decode cL_common 15 = .ok (.astore 5, 2) := by decide +kernel
theorem dL_common_17 : decode cL_common 17 = .ok (.iconst 1, 1) := by decide +kernel
theorem dL_common_18 : decode cL_common 18 = .ok (.ireturn, 1) := by decide +kernel
theorem dL_common_19 : decode cL_common 19 = .ok (.astore 5, 2) := by decide +kernel
theorem dL_common_21 : decode cL_common 21 = .ok (.iconst 2, 1) := by decide +kernel
theorem dL_common_22 : decode cL_common 22 = .ok (.ireturn, 1) := by decide +kernel
theorem dL_common_23 : decode cL_common 23 = .ok (.astore 5, 2) := by decide +kernel
theorem dL_common_25 : decode cL_common 25 = .ok (.iconst 3, 1) := by decide +kernel
theorem dL_common_26 : decode cL_common 26 = .ok (.ireturn, 1) := by decide +kernel
theorem dL_common_27 : decode cL_common 27 = .ok (.iconst 0, 1) := by decide +kernel
theorem dL_common_28 : decode cL_common 28 = .ok (.ireturn, 1) := by decide +kernel
theorem dL_rank_0 : decode cL_rank 0 = .ok (.aload 4, 2) := by decide +kernel
theorem dL_rank_2 : decode cL_rank 2 = .ok (.iconst 0, 1) := by decide +kernel
theorem dL_rank_3 : decode cL_rank 3 = .ok (.aload_n 0, 1) := by decide +kernel
theorem dL_rank_4 : decode cL_rank 4 = .ok (.iload_n 1, 1) := by decide +kernel
theorem dL_rank_5 : decode cL_rank 5 = .ok (.iload_n 2, 1) := by decide +kernel
theorem dL_rank_6 : decode cL_rank 6 = .ok (.iload_n 3, 1) := by decide +kernel
theorem dL_rank_7 : decode cL_rank 7 = .ok (.invokevirtual 75, 3) := by decide +kernel
theorem dL_rank_10 : decode cL_rank 10 = .ok (.i2l, 1) := by decide +kernel
theorem dL_rank_11 : decode cL_rank 11 = .ok (.lastore, 1) := by decide +kernel
theorem dL_rank_12 : decode cL_rank 12 = .ok (.goto 15, 3) := by decide +kernel
theorem dL_rank_15 : decode cL_rank 15 = .ok (.astore 5, 2) := by decide +kernel
theorem dL_rank_17 : decode cL_rank 17 = .ok (.iconst 1, 1) := by decide +kernel
theorem dL_rank_18 : decode cL_rank 18 = .ok (.ireturn, 1) := by decide +kernel
theorem dL_rank_19 : decode cL_rank 19 = .ok (.astore 5, 2) := by decide +kernel
theorem dL_rank_21 : decode cL_rank 21 = .ok (.iconst 2, 1) := by decide +kernel
theorem dL_rank_22 : decode cL_rank 22 = .ok (.ireturn, 1) := by decide +kernel
theorem dL_rank_23 : decode cL_rank 23 = .ok (.astore 5, 2) := by decide +kernel
theorem dL_rank_25 : decode cL_rank 25 = .ok (.iconst 3, 1) := by decide +kernel
theorem dL_rank_26 : decode cL_rank 26 = .ok (.ireturn, 1) := by decide +kernel
theorem dL_rank_27 : decode cL_rank 27 = .ok (.iconst 0, 1) := by decide +kernel
theorem dL_rank_28 : decode cL_rank 28 = .ok (.ireturn, 1) := by decide +kernel
theorem dL_sort_0 : decode cL_sort 0 = .ok (.aload_n 3, 1) := by decide +kernel
theorem dL_sort_1 : decode cL_sort 1 = .ok (.iconst 0, 1) := by decide +kernel
theorem dL_sort_2 : decode cL_sort 2 = .ok (.aload_n 0, 1) := by decide +kernel
theorem dL_sort_3 : decode cL_sort 3 = .ok (.iload_n 1, 1) := by decide +kernel
theorem dL_sort_4 : decode cL_sort 4 = .ok (.iload_n 2, 1) := by decide +kernel
theorem dL_sort_5 : decode cL_sort 5 = .ok (.invokevirtual 79, 3) := by decide +kernel
theorem dL_sort_8 : decode cL_sort 8 = .ok (.i2l, 1) := by decide +kernel
theorem dL_sort_9 : decode cL_sort 9 = .ok (.lastore, 1) := by decide +kernel
theorem dL_sort_10 : decode cL_sort 10 = .ok (.goto 7, 3) := by decide +kernel
theorem dL_sort_13 : decode cL_sort 13 = .ok (.astore 4, 2) := by decide +kernel
theorem dL_sort_15 : decode cL_sort 15 = .ok (.iconst 1, 1) := by decide +kernel
theorem dL_sort_16 : decode cL_sort 16 = .ok (.ireturn, 1) := by decide +kernel
theorem dL_sort_17 : decode cL_sort 17 = .ok (.iconst 0, 1) := by decide +kernel
theorem dL_sort_18 : decode cL_sort 18 = .ok (.ireturn, 1) := by decide +kernel
theorem dL_sorted_0 : decode cL_sorted 0 = .ok (.aload_n 2, 1) := by decide +kernel
theorem dL_sorted_1 : decode cL_sorted 1 = .ok (.iconst 0, 1) := by decide +kernel
theorem dL_sorted_2 : decode cL_sorted 2 = .ok (.aload_n 0, 1) := by decide +kernel
theorem dL_sorted_3 : decode cL_sorted 3 = .ok (.iload_n 1, 1) := by decide +kernel
theorem dL_sorted_4 : decode cL_sorted 4 = .ok (.invokevirtual 83, 3) := by decide +kernel
theorem dL_sorted_7 : decode cL_sorted 7 = .ok (.i2l, 1) := by decide +kernel
theorem dL_sorted_8 : decode cL_sorted 8 = .ok (.lastore, 1) := by decide +kernel
theorem dL_sorted_9 : decode cL_sorted 9 = .ok (.goto 6, 3) := by decide +kernel
theorem dL_sorted_12 : decode cL_sorted 12 = .ok (.astore_n 3, 1) := by decide +kernel
theorem dL_sorted_13 : decode cL_sorted 13 = .ok (.iconst 1, 1) := by decide +kernel
theorem dL_sorted_14 : decode cL_sorted 14 = .ok (.ireturn, 1) := by decide +kernel
theorem dL_sorted_15 : decode cL_sorted 15 = .ok (.iconst 0, 1) := by decide +kernel
theorem dL_sorted_16 : decode cL_sorted 16 = .ok (.ireturn, 1) := by decide +kernel
theorem dL_ending_0 : decode cL_ending 0 = .ok (.aload 5, 2) := by decide +kernel
theorem dL_ending_2 : decode cL_ending 2 = .ok (.iconst 0, 1) := by decide +kernel
theorem dL_ending_3 : decode cL_ending 3 = .ok (.aload_n 0, 1) := by decide +kernel
theorem dL_ending_4 : decode cL_ending 4 = .ok (.iload_n 1, 1) := by decide +kernel
theorem dL_ending_5 : decode cL_ending 5 = .ok (.iload_n 2, 1) := by decide +kernel
theorem dL_ending_6 : decode cL_ending 6 = .ok (.iload_n 3, 1) := by decide +kernel
theorem dL_ending_7 : decode cL_ending 7 = .ok (.iload 4, 2) := by decide +kernel
theorem dL_ending_9 : decode cL_ending 9 = .ok (.invokevirtual 87, 3) := by decide +kernel
theorem dL_ending_12 : decode cL_ending 12 = .ok (.i2l, 1) := by decide +kernel
theorem dL_ending_13 : decode cL_ending 13 = .ok (.lastore, 1) := by decide +kernel
theorem dL_ending_14 : decode cL_ending 14 = .ok (.goto 11, 3) := by decide +kernel
theorem dL_ending_17 : decode cL_ending 17 = .ok (.astore 6, 2) := by decide +kernel
theorem dL_ending_19 : decode cL_ending 19 = .ok (.iconst 1, 1) := by decide +kernel
theorem dL_ending_20 : decode cL_ending 20 = .ok (.ireturn, 1) := by decide +kernel
theorem dL_ending_21 : decode cL_ending 21 = .ok (.astore 6, 2) := by decide +kernel
theorem dL_ending_23 : decode cL_ending 23 = .ok (.iconst 2, 1) := by decide +kernel
theorem dL_ending_24 : decode cL_ending 24 = .ok (.ireturn, 1) := by decide +kernel
theorem dL_ending_25 : decode cL_ending 25 = .ok (.iconst 0, 1) := by decide +kernel
theorem dL_ending_26 : decode cL_ending 26 = .ok (.ireturn, 1) := by decide +kernel
theorem dL_distinct_0 : decode cL_distinct 0 = .ok (.aload_n 3, 1) := by decide +kernel
theorem dL_distinct_1 : decode cL_distinct 1 = .ok (.iconst 0, 1) := by decide +kernel
theorem dL_distinct_2 : decode cL_distinct 2 = .ok (.aload_n 0, 1) := by decide +kernel
theorem dL_distinct_3 : decode cL_distinct 3 = .ok (.iload_n 1, 1) := by decide +kernel
theorem dL_distinct_4 : decode cL_distinct 4 = .ok (.iload_n 2, 1) := by decide +kernel
theorem dL_distinct_5 : decode cL_distinct 5 = .ok (.invokevirtual 90, 3) := by decide +kernel
theorem dL_distinct_8 : decode cL_distinct 8 = .ok (.i2l, 1) := by decide +kernel
theorem dL_distinct_9 : decode cL_distinct 9 = .ok (.lastore, 1) := by decide +kernel
theorem dL_distinct_10 : decode cL_distinct 10 = .ok (.goto 11, 3) := by decide +kernel
theorem dL_distinct_13 : decode cL_distinct 13 = .ok (.astore 4, 2) := by decide +kernel
theorem dL_distinct_15 : decode cL_distinct 15 = .ok (.iconst 1, 1) := by decide +kernel
theorem dL_distinct_16 : decode cL_distinct 16 = .ok (.ireturn, 1) := by decide +kernel
theorem dL_distinct_17 : decode cL_distinct 17 = .ok (.astore 4, 2) := by decide +kernel
theorem dL_distinct_19 : decode cL_distinct 19 = .ok (.iconst 2, 1) := by decide +kernel
theorem dL_distinct_20 : decode cL_distinct 20 = .ok (.ireturn, 1) := by decide +kernel
theorem dL_distinct_21 : decode cL_distinct 21 = .ok (.iconst 0, 1) := by decide +kernel
theorem dL_distinct_22 : decode cL_distinct 22 = .ok (.ireturn, 1) := by decide +kernel
theorem dL_longest_0 : decode cL_longest 0 = .ok (.aload_n 3, 1) := by decide +kernel
theorem dL_longest_1 : decode cL_longest 1 = .ok (.iconst 0, 1) := by decide +kernel
theorem dL_longest_2 : decode cL_longest 2 = .ok (.aload_n 0, 1) := by decide +kernel
theorem dL_longest_3 : decode cL_longest 3 = .ok (.iload_n 1, 1) := by decide +kernel
theorem dL_longest_4 : decode cL_longest 4 = .ok (.iload_n 2, 1) := by decide +kernel
theorem dL_longest_5 : decode cL_longest 5 = .ok (.invokevirtual 93, 3) := by decide +kernel
theorem dL_longest_8 : decode cL_longest 8 = .ok (.i2l, 1) := by decide +kernel
theorem dL_longest_9 : decode cL_longest 9 = .ok (.lastore, 1) := by decide +kernel
theorem dL_longest_10 : decode cL_longest 10 = .ok (.goto 11, 3) := by decide +kernel
theorem dL_longest_13 : decode cL_longest 13 = .ok (.astore 4, 2) := by decide +kernel
theorem dL_longest_15 : decode cL_longest 15 = .ok (.iconst 1, 1) := by decide +kernel
theorem dL_longest_16 : decode cL_longest 16 = .ok (.ireturn, 1) := by decide +kernel
theorem dL_longest_17 : decode cL_longest 17 = .ok (.astore 4, 2) := by decide +kernel
theorem dL_longest_19 : decode cL_longest 19 = .ok (.iconst 2, 1) := by decide +kernel
theorem dL_longest_20 : decode cL_longest 20 = .ok (.ireturn, 1) := by decide +kernel
theorem dL_longest_21 : decode cL_longest 21 = .ok (.iconst 0, 1) := by decide +kernel
theorem dL_longest_22 : decode cL_longest 22 = .ok (.ireturn, 1) := by decide +kernel
theorem dL_occurs_0 : decode cL_occurs 0 = .ok (.aload 4, 2) := by decide +kernel
theorem dL_occurs_2 : decode cL_occurs 2 = .ok (.iconst 0, 1) := by decide +kernel
theorem dL_occurs_3 : decode cL_occurs 3 = .ok (.aload_n 0, 1) := by decide +kernel
theorem dL_occurs_4 : decode cL_occurs 4 = .ok (.iload_n 1, 1) := by decide +kernel
theorem dL_occurs_5 : decode cL_occurs 5 = .ok (.iload_n 2, 1) := by decide +kernel
theorem dL_occurs_6 : decode cL_occurs 6 = .ok (.iload_n 3, 1) := by decide +kernel
theorem dL_occurs_7 : decode cL_occurs 7 = .ok (.invokevirtual 96, 3) := by decide +kernel
theorem dL_occurs_10 : decode cL_occurs 10 = .ok (.i2l, 1) := by decide +kernel
theorem dL_occurs_11 : decode cL_occurs 11 = .ok (.lastore, 1) := by decide +kernel
theorem dL_occurs_12 : decode cL_occurs 12 = .ok (.goto 15, 3) := by decide +kernel
theorem dL_occurs_15 : decode cL_occurs 15 = .ok (.astore 5, 2) := by decide +kernel
theorem dL_occurs_17 : decode cL_occurs 17 = .ok (.iconst 1, 1) := by decide +kernel
theorem dL_occurs_18 : decode cL_occurs 18 = .ok (.ireturn, 1) := by decide +kernel
theorem dL_occurs_19 : decode cL_occurs 19 = .ok (.astore 5, 2) := by decide +kernel
theorem dL_occurs_21 : decode cL_occurs 21 = .ok (.iconst 2, 1) := by decide +kernel
theorem dL_occurs_22 : decode cL_occurs 22 = .ok (.ireturn, 1) := by decide +kernel
theorem dL_occurs_23 : decode cL_occurs 23 = .ok (.astore 5, 2) := by decide +kernel
theorem dL_occurs_25 : decode cL_occurs 25 = .ok (.iconst 3, 1) := by decide +kernel
theorem dL_occurs_26 : decode cL_occurs 26 = .ok (.ireturn, 1) := by decide +kernel
theorem dL_occurs_27 : decode cL_occurs 27 = .ok (.iconst 0, 1) := by decide +kernel
theorem dL_occurs_28 : decode cL_occurs 28 = .ok (.ireturn, 1) := by decide +kernel
theorem dL_isPeriod_0 : decode cL_isPeriod 0 = .ok (.aload 4, 2) := by decide +kernel
theorem dL_isPeriod_2 : decode cL_isPeriod 2 = .ok (.iconst 0, 1) := by decide +kernel
theorem dL_isPeriod_3 : decode cL_isPeriod 3 = .ok (.aload_n 0, 1) := by decide +kernel
theorem dL_isPeriod_4 : decode cL_isPeriod 4 = .ok (.iload_n 1, 1) := by decide +kernel
theorem dL_isPeriod_5 : decode cL_isPeriod 5 = .ok (.iload_n 2, 1) := by decide +kernel
theorem dL_isPeriod_6 : decode cL_isPeriod 6 = .ok (.iload_n 3, 1) := by decide +kernel
theorem dL_isPeriod_7 : decode cL_isPeriod 7 = .ok (.invokevirtual 99, 3) := by decide +kernel
theorem dL_isPeriod_10 : decode cL_isPeriod 10 = .ok (.ifCond .eq 7, 3) := by decide +kernel
theorem dL_isPeriod_13 : decode cL_isPeriod 13 = .ok (.lconst 1, 1) := by decide +kernel
theorem dL_isPeriod_14 : decode cL_isPeriod 14 = .ok (.goto 4, 3) := by decide +kernel
theorem dL_isPeriod_17 : decode cL_isPeriod 17 = .ok (.lconst 0, 1) := by decide +kernel
theorem dL_isPeriod_18 : decode cL_isPeriod 18 = .ok (.lastore, 1) := by decide +kernel
theorem dL_isPeriod_19 : decode cL_isPeriod 19 = .ok (.goto 11, 3) := by decide +kernel
theorem dL_isPeriod_22 : decode cL_isPeriod 22 = .ok (.astore 5, 2) := by decide +kernel
theorem dL_isPeriod_24 : decode cL_isPeriod 24 = .ok (.iconst 1, 1) := by decide +kernel
theorem dL_isPeriod_25 : decode cL_isPeriod 25 = .ok (.ireturn, 1) := by decide +kernel
theorem dL_isPeriod_26 : decode cL_isPeriod 26 = .ok (.astore 5, 2) := by decide +kernel
theorem dL_isPeriod_28 : decode cL_isPeriod 28 = .ok (.iconst 2, 1) := by decide +kernel
theorem dL_isPeriod_29 : decode cL_isPeriod 29 = .ok (.ireturn, 1) := by decide +kernel
theorem dL_isPeriod_30 : decode cL_isPeriod 30 = .ok (.iconst 0, 1) := by decide +kernel
theorem dL_isPeriod_31 : decode cL_isPeriod 31 = .ok (.ireturn, 1) := by decide +kernel
theorem dL_period_0 : decode cL_period 0 = .ok (.aload_n 3, 1) := by decide +kernel
theorem dL_period_1 : decode cL_period 1 = .ok (.iconst 0, 1) := by decide +kernel
theorem dL_period_2 : decode cL_period 2 = .ok (.aload_n 0, 1) := by decide +kernel
theorem dL_period_3 : decode cL_period 3 = .ok (.iload_n 1, 1) := by decide +kernel
theorem dL_period_4 : decode cL_period 4 = .ok (.iload_n 2, 1) := by decide +kernel
theorem dL_period_5 : decode cL_period 5 = .ok (.invokevirtual 103, 3) := by decide +kernel
theorem dL_period_8 : decode cL_period 8 = .ok (.i2l, 1) := by decide +kernel
theorem dL_period_9 : decode cL_period 9 = .ok (.lastore, 1) := by decide +kernel
theorem dL_period_10 : decode cL_period 10 = .ok (.goto 11, 3) := by decide +kernel
theorem dL_period_13 : decode cL_period 13 = .ok (.astore 4, 2) := by decide +kernel
theorem dL_period_15 : decode cL_period 15 = .ok (.iconst 1, 1) := by decide +kernel
theorem dL_period_16 : decode cL_period 16 = .ok (.ireturn, 1) := by decide +kernel
theorem dL_period_17 : decode cL_period 17 = .ok (.astore 4, 2) := by decide +kernel
theorem dL_period_19 : decode cL_period 19 = .ok (.iconst 2, 1) := by decide +kernel
theorem dL_period_20 : decode cL_period 20 = .ok (.ireturn, 1) := by decide +kernel
theorem dL_period_21 : decode cL_period 21 = .ok (.iconst 0, 1) := by decide +kernel
theorem dL_period_22 : decode cL_period 22 = .ok (.ireturn, 1) := by decide +kernel
theorem dL_root_0 : decode cL_root 0 = .ok (.aload_n 3, 1) := by decide +kernel
theorem dL_root_1 : decode cL_root 1 = .ok (.iconst 0, 1) := by decide +kernel
theorem dL_root_2 : decode cL_root 2 = .ok (.aload_n 0, 1) := by decide +kernel
theorem dL_root_3 : decode cL_root 3 = .ok (.iload_n 1, 1) := by decide +kernel
theorem dL_root_4 : decode cL_root 4 = .ok (.iload_n 2, 1) := by decide +kernel
theorem dL_root_5 : decode cL_root 5 = .ok (.invokevirtual 106, 3) := by decide +kernel
theorem dL_root_8 : decode cL_root 8 = .ok (.i2l, 1) := by decide +kernel
theorem dL_root_9 : decode cL_root 9 = .ok (.lastore, 1) := by decide +kernel
theorem dL_root_10 : decode cL_root 10 = .ok (.goto 11, 3) := by decide +kernel
theorem dL_root_13 : decode cL_root 13 = .ok (.astore 4, 2) := by decide +kernel
theorem dL_root_15 : decode cL_root 15 = .ok (.iconst 1, 1) := by decide +kernel
theorem dL_root_16 : decode cL_root 16 = .ok (.ireturn, 1) := by decide +kernel
theorem dL_root_17 : decode cL_root 17 = .ok (.astore 4, 2) := by decide +kernel
theorem dL_root_19 : decode cL_root 19 = .ok (.iconst 2, 1) := by decide +kernel
theorem dL_root_20 : decode cL_root 20 = .ok (.ireturn, 1) := by decide +kernel
theorem dL_root_21 : decode cL_root 21 = .ok (.iconst 0, 1) := by decide +kernel
theorem dL_root_22 : decode cL_root 22 = .ok (.ireturn, 1) := by decide +kernel
theorem dL_rotation_0 : decode cL_rotation 0 = .ok (.aload 4, 2) := by decide +kernel
theorem dL_rotation_2 : decode cL_rotation 2 = .ok (.iconst 0, 1) := by decide +kernel
theorem dL_rotation_3 : decode cL_rotation 3 = .ok (.aload_n 0, 1) := by decide +kernel
theorem dL_rotation_4 : decode cL_rotation 4 = .ok (.iload_n 1, 1) := by decide +kernel
theorem dL_rotation_5 : decode cL_rotation 5 = .ok (.iload_n 2, 1) := by decide +kernel
theorem dL_rotation_6 : decode cL_rotation 6 = .ok (.iload_n 3, 1) := by decide +kernel
theorem dL_rotation_7 : decode cL_rotation 7 = .ok (.invokevirtual 109, 3) := by decide +kernel
theorem dL_rotation_10 : decode cL_rotation 10 = .ok (.i2l, 1) := by decide +kernel
theorem dL_rotation_11 : decode cL_rotation 11 = .ok (.lastore, 1) := by decide +kernel
theorem dL_rotation_12 : decode cL_rotation 12 = .ok (.goto 11, 3) := by decide +kernel
theorem dL_rotation_15 : decode cL_rotation 15 = .ok (.astore 5, 2) := by decide +kernel
theorem dL_rotation_17 : decode cL_rotation 17 = .ok (.iconst 1, 1) := by decide +kernel
theorem dL_rotation_18 : decode cL_rotation 18 = .ok (.ireturn, 1) := by decide +kernel
theorem dL_rotation_19 : decode cL_rotation 19 = .ok (.astore 5, 2) := by decide +kernel
theorem dL_rotation_21 : decode cL_rotation 21 = .ok (.iconst 2, 1) := by decide +kernel
theorem dL_rotation_22 : decode cL_rotation 22 = .ok (.ireturn, 1) := by decide +kernel
theorem dL_rotation_23 : decode cL_rotation 23 = .ok (.iconst 0, 1) := by decide +kernel
theorem dL_rotation_24 : decode cL_rotation 24 = .ok (.ireturn, 1) := by decide +kernel
theorem dL_factors_0 : decode cL_factors 0 = .ok (.aload 4, 2) := by decide +kernel
theorem dL_factors_2 : decode cL_factors 2 = .ok (.iconst 0, 1) := by decide +kernel
theorem dL_factors_3 : decode cL_factors 3 = .ok (.aload_n 0, 1) := by decide +kernel
theorem dL_factors_4 : decode cL_factors 4 = .ok (.iload_n 1, 1) := by decide +kernel
theorem dL_factors_5 : decode cL_factors 5 = .ok (.iload_n 2, 1) := by decide +kernel
theorem dL_factors_6 : decode cL_factors 6 = .ok (.iload_n 3, 1) := by decide +kernel
theorem dL_factors_7 : decode cL_factors 7 = .ok (.invokevirtual 112, 3) := by decide +kernel
theorem dL_factors_10 : decode cL_factors 10 = .ok (.i2l, 1) := by decide +kernel
theorem dL_factors_11 : decode cL_factors 11 = .ok (.lastore, 1) := by decide +kernel
theorem dL_factors_12 : decode cL_factors 12 = .ok (.goto 11, 3) := by decide +kernel
theorem dL_factors_15 : decode cL_factors 15 = .ok (.astore 5, 2) := by decide +kernel
theorem dL_factors_17 : decode cL_factors 17 = .ok (.iconst 1, 1) := by decide +kernel
theorem dL_factors_18 : decode cL_factors 18 = .ok (.ireturn, 1) := by decide +kernel
theorem dL_factors_19 : decode cL_factors 19 = .ok (.astore 5, 2) := by decide +kernel
theorem dL_factors_21 : decode cL_factors 21 = .ok (.iconst 2, 1) := by decide +kernel
theorem dL_factors_22 : decode cL_factors 22 = .ok (.ireturn, 1) := by decide +kernel
theorem dL_factors_23 : decode cL_factors 23 = .ok (.iconst 0, 1) := by decide +kernel
theorem dL_factors_24 : decode cL_factors 24 = .ok (.ireturn, 1) := by decide +kernel
theorem dL_factor_0 : decode cL_factor 0 = .ok (.aload 5, 2) := by decide +kernel
theorem dL_factor_2 : decode cL_factor 2 = .ok (.iconst 0, 1) := by decide +kernel
theorem dL_factor_3 : decode cL_factor 3 = .ok (.aload_n 0, 1) := by decide +kernel
theorem dL_factor_4 : decode cL_factor 4 = .ok (.iload_n 1, 1) := by decide +kernel
theorem dL_factor_5 : decode cL_factor 5 = .ok (.iload_n 2, 1) := by decide +kernel
theorem dL_factor_6 : decode cL_factor 6 = .ok (.iload_n 3, 1) := by decide +kernel
theorem dL_factor_7 : decode cL_factor 7 = .ok (.iload 4, 2) := by decide +kernel
theorem dL_factor_9 : decode cL_factor 9 = .ok (.invokevirtual 115, 3) := by decide +kernel
theorem dL_factor_12 : decode cL_factor 12 = .ok (.i2l, 1) := by decide +kernel
theorem dL_factor_13 : decode cL_factor 13 = .ok (.lastore, 1) := by decide +kernel
theorem dL_factor_14 : decode cL_factor 14 = .ok (.goto 11, 3) := by decide +kernel
theorem dL_factor_17 : decode cL_factor 17 = .ok (.astore 6, 2) := by decide +kernel
theorem dL_factor_19 : decode cL_factor 19 = .ok (.iconst 1, 1) := by decide +kernel
theorem dL_factor_20 : decode cL_factor 20 = .ok (.ireturn, 1) := by decide +kernel
theorem dL_factor_21 : decode cL_factor 21 = .ok (.astore 6, 2) := by decide +kernel
theorem dL_factor_23 : decode cL_factor 23 = .ok (.iconst 2, 1) := by decide +kernel
theorem dL_factor_24 : decode cL_factor 24 = .ok (.ireturn, 1) := by decide +kernel
theorem dL_factor_25 : decode cL_factor 25 = .ok (.iconst 0, 1) := by decide +kernel
theorem dL_factor_26 : decode cL_factor 26 = .ok (.ireturn, 1) := by decide +kernel
theorem dL_share_0 : decode cL_share 0 = .ok (.aload_n 2, 1) := by decide +kernel
theorem dL_share_1 : decode cL_share 1 = .ok (.iconst 0, 1) := by decide +kernel
theorem dL_share_2 : decode cL_share 2 = .ok (.aload_n 0, 1) := by decide +kernel
theorem dL_share_3 : decode cL_share 3 = .ok (.iload_n 1, 1) := by decide +kernel
theorem dL_share_4 : decode cL_share 4 = .ok (.invokevirtual 118, 3) := by decide +kernel
theorem dL_share_7 : decode cL_share 7 = .ok (.f2d, 1) := by decide +kernel
theorem dL_share_8 : decode cL_share 8 = .ok (.dastore, 1) := by decide +kernel
theorem dL_share_9 : decode cL_share 9 = .ok (.goto 9, 3) := by decide +kernel
theorem dL_share_12 : decode cL_share 12 = .ok (.astore_n 3, 1) := by decide +kernel
theorem dL_share_13 : decode cL_share 13 = .ok (.iconst 1, 1) := by decide +kernel
theorem dL_share_14 : decode cL_share 14 = .ok (.ireturn, 1) := by decide +kernel
theorem dL_share_15 : decode cL_share 15 = .ok (.astore_n 3, 1) := by decide +kernel
theorem dL_share_16 : decode cL_share 16 = .ok (.iconst 2, 1) := by decide +kernel
theorem dL_share_17 : decode cL_share 17 = .ok (.ireturn, 1) := by decide +kernel
theorem dL_share_18 : decode cL_share 18 = .ok (.iconst 0, 1) := by decide +kernel
theorem dL_share_19 : decode cL_share 19 = .ok (.ireturn, 1) := by decide +kernel
theorem dL_mean_0 : decode cL_mean 0 = .ok (.aload_n 2, 1) := by decide +kernel
theorem dL_mean_1 : decode cL_mean 1 = .ok (.iconst 0, 1) := by decide +kernel
theorem dL_mean_2 : decode cL_mean 2 = .ok (.aload_n 0, 1) := by decide +kernel
theorem dL_mean_3 : decode cL_mean 3 = .ok (.iload_n 1, 1) := by decide +kernel
theorem dL_mean_4 : decode cL_mean 4 = .ok (.invokevirtual 122, 3) := by decide +kernel
theorem dL_mean_7 : decode cL_mean 7 = .ok (.dastore, 1) := by decide +kernel
theorem dL_mean_8 : decode cL_mean 8 = .ok (.goto 6, 3) := by decide +kernel
theorem dL_mean_11 : decode cL_mean 11 = .ok (.astore_n 3, 1) := by decide +kernel
theorem dL_mean_12 : decode cL_mean 12 = .ok (.iconst 1, 1) := by decide +kernel
theorem dL_mean_13 : decode cL_mean 13 = .ok (.ireturn, 1) := by decide +kernel
theorem dL_mean_14 : decode cL_mean 14 = .ok (.iconst 0, 1) := by decide +kernel
theorem dL_mean_15 : decode cL_mean 15 = .ok (.ireturn, 1) := by decide +kernel
theorem dL_isTrue_0 : decode cL_isTrue 0 = .ok (.aload 5, 2) := by decide +kernel
theorem dL_isTrue_2 : decode cL_isTrue 2 = .ok (.iconst 0, 1) := by decide +kernel
theorem dL_isTrue_3 : decode cL_isTrue 3 = .ok (.aload_n 0, 1) := by decide +kernel
theorem dL_isTrue_4 : decode cL_isTrue 4 = .ok (.iload_n 1, 1) := by decide +kernel
theorem dL_isTrue_5 : decode cL_isTrue 5 = .ok (.iload_n 2, 1) := by decide +kernel
theorem dL_isTrue_6 : decode cL_isTrue 6 = .ok (.iload_n 3, 1) := by decide +kernel
theorem dL_isTrue_7 : decode cL_isTrue 7 = .ok (.iload 4, 2) := by decide +kernel
theorem dL_isTrue_9 : decode cL_isTrue 9 = .ok (.invokevirtual 126, 3) := by decide +kernel
theorem dL_isTrue_12 : decode cL_isTrue 12 = .ok (.ifCond .eq 7, 3) := by decide +kernel
theorem dL_isTrue_15 : decode cL_isTrue 15 = .ok (.lconst 1, 1) := by decide +kernel
theorem dL_isTrue_16 : decode cL_isTrue 16 = .ok (.goto 4, 3) := by decide +kernel
theorem dL_isTrue_19 : decode cL_isTrue 19 = .ok (.lconst 0, 1) := by decide +kernel
theorem dL_isTrue_20 : decode cL_isTrue 20 = .ok (.lastore, 1) := by decide +kernel
theorem dL_isTrue_21 : decode cL_isTrue 21 = .ok (.goto 15, 3) := by decide +kernel
theorem dL_isTrue_24 : decode cL_isTrue 24 = .ok (.astore 6, 2) := by decide +kernel
theorem dL_isTrue_26 : decode cL_isTrue 26 = .ok (.iconst 1, 1) := by decide +kernel
theorem dL_isTrue_27 : decode cL_isTrue 27 = .ok (.ireturn, 1) := by decide +kernel
theorem dL_isTrue_28 : decode cL_isTrue 28 = .ok (.astore 6, 2) := by decide +kernel
theorem dL_isTrue_30 : decode cL_isTrue 30 = .ok (.iconst 2, 1) := by decide +kernel
theorem dL_isTrue_31 : decode cL_isTrue 31 = .ok (.ireturn, 1) := by decide +kernel
theorem dL_isTrue_32 : decode cL_isTrue 32 = .ok (.astore 6, 2) := by decide +kernel
theorem dL_isTrue_34 : decode cL_isTrue 34 = .ok (.iconst 3, 1) := by decide +kernel
theorem dL_isTrue_35 : decode cL_isTrue 35 = .ok (.ireturn, 1) := by decide +kernel
theorem dL_isTrue_36 : decode cL_isTrue 36 = .ok (.iconst 0, 1) := by decide +kernel
theorem dL_isTrue_37 : decode cL_isTrue 37 = .ok (.ireturn, 1) := by decide +kernel
theorem dL_rowIsTrue_0 : decode cL_rowIsTrue 0 = .ok (.aload 4, 2) := by decide +kernel
theorem dL_rowIsTrue_2 : decode cL_rowIsTrue 2 = .ok (.iconst 0, 1) := by decide +kernel
theorem dL_rowIsTrue_3 : decode cL_rowIsTrue 3 = .ok (.aload_n 0, 1) := by decide +kernel
theorem dL_rowIsTrue_4 : decode cL_rowIsTrue 4 = .ok (.iload_n 1, 1) := by decide +kernel
theorem dL_rowIsTrue_5 : decode cL_rowIsTrue 5 = .ok (.iload_n 2, 1) := by decide +kernel
theorem dL_rowIsTrue_6 : decode cL_rowIsTrue 6 = .ok (.iload_n 3, 1) := by decide +kernel
theorem dL_rowIsTrue_7 : decode cL_rowIsTrue 7 = .ok (.invokevirtual 130, 3) := by decide +kernel
theorem dL_rowIsTrue_10 : decode cL_rowIsTrue 10 = .ok (.ifCond .eq 7, 3) := by decide +kernel
theorem dL_rowIsTrue_13 : decode cL_rowIsTrue 13 = .ok (.lconst 1, 1) := by decide +kernel
theorem dL_rowIsTrue_14 : decode cL_rowIsTrue 14 = .ok (.goto 4, 3) := by decide +kernel
theorem dL_rowIsTrue_17 : decode cL_rowIsTrue 17 = .ok (.lconst 0, 1) := by decide +kernel
theorem dL_rowIsTrue_18 : decode cL_rowIsTrue 18 = .ok (.lastore, 1) := by decide +kernel
theorem dL_rowIsTrue_19 : decode cL_rowIsTrue 19 = .ok (.goto 11, 3) := by decide +kernel
theorem dL_rowIsTrue_22 : decode cL_rowIsTrue 22 = .ok (.astore 5, 2) := by decide +kernel
theorem dL_rowIsTrue_24 : decode cL_rowIsTrue 24 = .ok (.iconst 1, 1) := by decide +kernel
theorem dL_rowIsTrue_25 : decode cL_rowIsTrue 25 = .ok (.ireturn, 1) := by decide +kernel
theorem dL_rowIsTrue_26 : decode cL_rowIsTrue 26 = .ok (.astore 5, 2) := by decide +kernel
theorem dL_rowIsTrue_28 : decode cL_rowIsTrue 28 = .ok (.iconst 2, 1) := by decide +kernel
theorem dL_rowIsTrue_29 : decode cL_rowIsTrue 29 = .ok (.ireturn, 1) := by decide +kernel
theorem dL_rowIsTrue_30 : decode cL_rowIsTrue 30 = .ok (.iconst 0, 1) := by decide +kernel
theorem dL_rowIsTrue_31 : decode cL_rowIsTrue 31 = .ok (.ireturn, 1) := by decide +kernel
end
section
/-! ===== BEGIN a constructor that throws (launches without stack traces) ===== -/
section VXIA
variable {p : Program} {l : Launch} {e : Env} {R : Room} {s : State} {m : MethodId} {args : Array Value} {below : List Frame} {meth : Method} {c : Code} {T : State} {locs : List Loc} {cells slots : Nat}
theorem vx_callI (X : Stand p l e R s m args below meth c T locs cells slots) (hexec : p.tables.exec = Jvm.exec) {own : String} {index : Nat} {y : MethodName} {bytes : ByteArray} {maxL : Nat}
    (hown : s.vm.findClass own = some m.cls) (hy1 : y.name = "<init>") (hlink : (Cond.methodLink own index y).before args s = true) (hinst : (Cond.instanceMethod y).before args s = true)
    (hcode : (Cond.code y bytes maxL none).before args s = true) (hy : y.cls ≠ "java/lang/invoke/MethodHandle" ∧ y.cls ≠ "java/lang/invoke/VarHandle")
    {W9 : Nat} {Pre : Pt → Array Value → Prop} {Post : Pt → Array Value → Option Value → Pt → Prop} {PostX : Pt → Array Value → Addr → Pt → Prop} (hK : vx_Back l R p e below s args y 3 W9 Pre Post PostX)
    {g : JFrame} (hg : g.method = m) (hsize : g.locals.size = c.maxLocals) {a : Addr} {argsL rest : List Value} (hlen : ∀ sig, parseMethodDescriptor y.desc = some sig → argsL.length = sig.parameters.length)
    (hstack : g.stack = argsL.reverse ++ .ref a :: rest) (hW : 2 * g.monitorRoom + (rest.map fun v => v.category).sum ≤ W9) (hdg : decode c.code g.pc = .ok (.invokespecial index, 3))
    (hpre : ∀ vm₁, s.WarmedH vm₁ → Pre ⟨T.setVm vm₁, locs, cells, slots⟩ (Value.ref a :: argsL).toArray) :
    (∃ (v : Option Value) (vm₁ : Vm) (B : Pt), s.WarmedH vm₁ ∧ Stand p l e R s m args below meth c B.U B.locs B.cells B.slots ∧ Post ⟨T.setVm vm₁, locs, cells, slots⟩ (Value.ref a :: argsL).toArray v B ∧
      ∀ target, Steps p.tables e below (B.U.setTop { g with pc := g.pc + 3, stack := v.toList ++ rest }) target → Steps p.tables e below (T.setTop g) target) ∨
    (∃ (q : Addr) (vm₁ : Vm) (B : Pt), s.WarmedH vm₁ ∧ Stand p l e R s m args below meth c B.U B.locs B.cells B.slots ∧ PostX ⟨T.setVm vm₁, locs, cells, slots⟩ (Value.ref a :: argsL).toArray q B ∧
      Steps p.tables e below (T.setTop g) ((B.U.setTop { g with stack := rest }).pushFrame (.throwing q))) := by
  subst hg
  have hpl : e.platform.magicAccessors = ({} : Platform).magicAccessors := by rw [X.admits.platform]
  obtain ⟨mk, methM, cM, kP, vm₁, hnamed, hmethM, hcodeM, -, hlocalsM, -, hkP, -, hW₁, hstep₁⟩ := Steps.initColdArgs (e := e) X.here hexec X.warmed hpl hown hy1 hy hlink hinst hcode (f := g) rfl hlen hstack hdg
  have X₁ := X.noted hW₁
  rcases hK g.method meth c ⟨T.setVm vm₁, locs, cells, slots⟩ { g with stack := rest } (.invokespecial index) mk (Value.ref a :: argsL).toArray X₁ rfl hsize hdg hW (X₁.named hnamed) (hpre vm₁ X₁.warmed) with ⟨v, B, X', hpost, hsteps⟩ | ⟨q, B, X', hpost, hsteps⟩
  · exact Or.inl ⟨v, vm₁, B, X₁.warmed, X', hpost, fun target h => hstep₁ _ fun acts => by rw [doInvoke_state]; exact hsteps.trans h⟩
  · exact Or.inr ⟨q, vm₁, B, X₁.warmed, X', hpost, hstep₁ _ fun acts => by rw [doInvoke_state]; exact hsteps⟩
end VXIA
section VXIB
variable {p : Program} {l : Launch} {e : Env} {R : Room} {s : State} {m : MethodId} {args : Array Value} {below : List Frame} {meth : Method} {c : Code} {H : Heap} {locs : List Loc} {cells slots : Nat}
variable {y : MethodName} {bytes cc : ByteArray} {maxL nL mc ms n index : Nat} {ret : Option FieldType} {ws : List Cond} {rm : Room} {Pc : Array Value → State → Prop} {Qc : Array Value → State → Outcome → State → Prop} {XC : String → State → State → Prop} {free : Addr → Prop} {Ts : List Cond} {own C : String} {b : Addr} {As rest : List Value} {g : JFrame}
theorem vx_runI (S : CallFix p m c cc nL s args Ts own) (hM : vx_Met l y ws rm Pc Qc XC mc ms free) (cw : CallB R s args own index y bytes maxL none ws rm mc ms n ∧ y.name = "<init>" ∧ (Cond.instanceMethod y).before args s = true) (hp : PreS s H Pc (.ref b :: As))
    (hg : g.method = m) (hn : As.length = n) (hsize : g.locals.size = nL) (hstack : g.stack = As.reverse ++ .ref b :: rest) (hW : 2 * g.monitorRoom + (rest.map fun v => v.category).sum ≤ 8) (hdg : decode cc g.pc = .ok (.invokespecial index, 3)) (hf : cells + mc ≤ R.cells ∧ slots + ms ≤ R.slots) :
    vx_Run p l e R s m args below meth c H locs cells slots mc ms g rest (Qc (Value.ref b :: As).toArray) XC free := by
  have hK : vx_Back l R p e below s args y 3 8 (PreOf R mc ms Pc) (PostOf Qc mc ms free) (vx_Post XC mc ms free) := vx_callBack cw.1 hM hp.1
  obtain ⟨⟨-, -, -, -, -, -, hcode, -, hy, hlen, hl⟩, hy1, hin⟩ := cw
  obtain ⟨hx, hb, hml, ho, -⟩ := S
  have hPc := hp.2
  intro T hT X
  rcases vx_callI X hx (bytes := bytes) (maxL := maxL) ho hy1 hl hin hcode hy hK hg (hsize.trans hml.symm) (a := b) (argsL := As) (rest := rest) (fun sig h => hn.trans (hlen sig h)) hstack hW (by rw [hb]; exact hdg)
    (fun vm₁ hW₁ => ⟨hf.1, hf.2, hPc (T.setVm vm₁) hT hW₁⟩) with ⟨v, vm₁, ⟨U', l2, c2, s2⟩, hW₁, X', ⟨g', mk, t, L, e1, e2, hq, h1, hL, h2, h3⟩, st⟩ | ⟨q, vm₁, ⟨U', l2, c2, s2⟩, hW₁, X', ⟨g', mk, t, L, E, ce, e1, e2, hq, hce, hcv, hcl, h1, hL, h2, h3⟩, st⟩
  · dsimp only [Pt.U, Pt.locs, Pt.cells, Pt.slots] at X' e1 e2 h1 h2 h3 st
    subst h1; subst h2; subst h3
    exact Or.inl ⟨v, (T.setVm vm₁).calling g' mk (Value.ref b :: As).toArray, t, U', L, hT, X', hL, e1, e2, hq, st⟩
  · dsimp only [Pt.U, Pt.locs, Pt.cells, Pt.slots] at X' e1 e2 h1 h2 h3 st hcl
    subst h1; subst h2; subst h3
    exact Or.inr ⟨q, (T.setVm vm₁).calling g' mk (Value.ref b :: As).toArray, t, U', L, E, ce, hT, X', hL, e1, e2, hq, hce, hcv, vx_cls hW₁ hcl, st⟩
end VXIB
/-! ===== END ===== -/
/-! ===== BEGIN a private constructor of a nest mate that throws ===== -/
section VXIC
variable {p : Program} {l : Launch} {e : Env} {R : Room} {s : State} {m : MethodId} {args : Array Value} {below : List Frame} {meth : Method} {c : Code} {T : State} {locs : List Loc} {cells slots : Nat}
theorem vx_callIN (X : Stand p l e R s m args below meth c T locs cells slots) (hexec : p.tables.exec = Jvm.exec) {own : String} {index : Nat} {host : String} {y : MethodName} {bytes : ByteArray} {maxL : Nat}
    (hown : s.vm.findClass own = some m.cls) (hy1 : y.name = "<init>") (hlink : (Cond.methodLinkNest own index y host).before args s = true) (hinst : (Cond.instanceMethod y).before args s = true)
    (hcode : (Cond.code y bytes maxL none).before args s = true) (hy : y.cls ≠ "java/lang/invoke/MethodHandle" ∧ y.cls ≠ "java/lang/invoke/VarHandle")
    {W9 : Nat} {Pre : Pt → Array Value → Prop} {Post : Pt → Array Value → Option Value → Pt → Prop} {PostX : Pt → Array Value → Addr → Pt → Prop} (hK : vx_Back l R p e below s args y 3 W9 Pre Post PostX)
    {g : JFrame} (hg : g.method = m) (hsize : g.locals.size = c.maxLocals) {a : Addr} {argsL rest : List Value} (hlen : ∀ sig, parseMethodDescriptor y.desc = some sig → argsL.length = sig.parameters.length)
    (hstack : g.stack = argsL.reverse ++ .ref a :: rest) (hW : 2 * g.monitorRoom + (rest.map fun v => v.category).sum ≤ W9) (hdg : decode c.code g.pc = .ok (.invokespecial index, 3))
    (hpre : ∀ vm₁, s.WarmedH vm₁ → Pre ⟨T.setVm vm₁, locs, cells, slots⟩ (Value.ref a :: argsL).toArray) :
    (∃ (v : Option Value) (vm₁ : Vm) (B : Pt), s.WarmedH vm₁ ∧ Stand p l e R s m args below meth c B.U B.locs B.cells B.slots ∧ Post ⟨T.setVm vm₁, locs, cells, slots⟩ (Value.ref a :: argsL).toArray v B ∧
      ∀ target, Steps p.tables e below (B.U.setTop { g with pc := g.pc + 3, stack := v.toList ++ rest }) target → Steps p.tables e below (T.setTop g) target) ∨
    (∃ (q : Addr) (vm₁ : Vm) (B : Pt), s.WarmedH vm₁ ∧ Stand p l e R s m args below meth c B.U B.locs B.cells B.slots ∧ PostX ⟨T.setVm vm₁, locs, cells, slots⟩ (Value.ref a :: argsL).toArray q B ∧
      Steps p.tables e below (T.setTop g) ((B.U.setTop { g with stack := rest }).pushFrame (.throwing q))) := by
  subst hg
  have hpl : e.platform.magicAccessors = ({} : Platform).magicAccessors := by rw [X.admits.platform]
  obtain ⟨mk, methM, cM, kP, vm₁, hnamed, hmethM, hcodeM, -, hlocalsM, -, hkP, -, hW₁, hstep₁⟩ := Steps.initColdArgsNest (e := e) X.here hexec X.warmed hpl hown hy1 hy hlink hinst hcode (f := g) rfl hlen hstack hdg
  have X₁ := X.noted hW₁
  rcases hK g.method meth c ⟨T.setVm vm₁, locs, cells, slots⟩ { g with stack := rest } (.invokespecial index) mk (Value.ref a :: argsL).toArray X₁ rfl hsize hdg hW (X₁.named hnamed) (hpre vm₁ X₁.warmed) with ⟨v, B, X', hpost, hsteps⟩ | ⟨q, B, X', hpost, hsteps⟩
  · exact Or.inl ⟨v, vm₁, B, X₁.warmed, X', hpost, fun target h => hstep₁ _ fun acts => by rw [doInvoke_state]; exact hsteps.trans h⟩
  · exact Or.inr ⟨q, vm₁, B, X₁.warmed, X', hpost, hstep₁ _ fun acts => by rw [doInvoke_state]; exact hsteps⟩
end VXIC
section VXID
variable {p : Program} {l : Launch} {e : Env} {R : Room} {s : State} {m : MethodId} {args : Array Value} {below : List Frame} {meth : Method} {c : Code} {H : Heap} {locs : List Loc} {cells slots : Nat}
theorem vx_runIN {y : MethodName} {bytes cc : ByteArray} {maxL nL mc ms n index : Nat} {ws : List Cond} {rm : Room} {Pc : Array Value → State → Prop} {Qc : Array Value → State → Outcome → State → Prop} {XC : String → State → State → Prop} {free : Addr → Prop} {Ts : List Cond} {own host : String} {b : Addr} {As rest : List Value} {g : JFrame}
    (S : CallFix p m c cc nL s args Ts own) (hM : vx_Met l y ws rm Pc Qc XC mc ms free) (cw : va_CN R s args own index y host bytes maxL none ws rm mc ms n ∧ y.name = "<init>" ∧ (Cond.instanceMethod y).before args s = true) (hp : PreS s H Pc (.ref b :: As))
    (hg : g.method = m) (hn : As.length = n) (hsize : g.locals.size = nL) (hstack : g.stack = As.reverse ++ .ref b :: rest) (hW : 2 * g.monitorRoom + (rest.map fun v => v.category).sum ≤ 8) (hdg : decode cc g.pc = .ok (.invokespecial index, 3)) (hf : cells + mc ≤ R.cells ∧ slots + ms ≤ R.slots) :
    vx_Run p l e R s m args below meth c H locs cells slots mc ms g rest (Qc (Value.ref b :: As).toArray) XC free := by
  obtain ⟨⟨⟨hrc, hrs, hfr, hlo, hws, hcw⟩, hcode, hini, hy, hlen, hl⟩, hx1, hx2⟩ := cw
  have hK : vx_Back l R p e below s args y 3 8 (PreOf R mc ms Pc) (PostOf Qc mc ms free) (vx_Post XC mc ms free) := vx_back (bytes := bytes) (maxL := maxL) (ret := none) hM hp.1 hrc hrs hfr hlo hws hcw (fun a' U hW => word_at hW (Or.inl (by first | rfl | simp [Cond.onTables, Cond.keeps, Cond.steady])) hini)
  obtain ⟨hx, hb, hml, ho, -⟩ := S
  have hPc := hp.2
  intro T hT X
  rcases vx_callIN X hx (bytes := bytes) (maxL := maxL) ho hx1 hl hx2 hcode hy hK hg (hsize.trans hml.symm) (a := b) (argsL := As) (rest := rest) (fun sig h => hn.trans (hlen sig h)) hstack hW (by rw [hb]; exact hdg)
    (fun vm₁ hW₁ => ⟨hf.1, hf.2, hPc (T.setVm vm₁) hT hW₁⟩) with ⟨v, vm₁, ⟨U', l2, c2, s2⟩, hW₁, X', ⟨g', mk, t, L, e1, e2, hq, h1, hL, h2, h3⟩, st⟩ | ⟨q, vm₁, ⟨U', l2, c2, s2⟩, hW₁, X', ⟨g', mk, t, L, E, ce, e1, e2, hq, hce, hcv, hcl, h1, hL, h2, h3⟩, st⟩
  · dsimp only [Pt.U, Pt.locs, Pt.cells, Pt.slots] at X' e1 e2 h1 h2 h3 st
    subst h1; subst h2; subst h3
    exact Or.inl ⟨v, (T.setVm vm₁).calling g' mk (Value.ref b :: As).toArray, t, U', L, hT, X', hL, e1, e2, hq, st⟩
  · dsimp only [Pt.U, Pt.locs, Pt.cells, Pt.slots] at X' e1 e2 h1 h2 h3 st hcl
    subst h1; subst h2; subst h3
    exact Or.inr ⟨q, (T.setVm vm₁).calling g' mk (Value.ref b :: As).toArray, t, U', L, E, ce, hT, X', hL, e1, e2, hq, hce, hcv, vx_cls hW₁ hcl, st⟩
end VXID
/-! ===== END ===== -/
/-! ===== BEGIN a private method of a nest mate that may throw (follows va_callVN, va_callSN, va_runVN, va_runSN) ===== -/
section
variable {p : Program} {l : Launch} {e : Env} {R : Room} {s : State} {m : MethodId} {args : Array Value} {below : List Frame} {meth : Method} {c : Code} {H : Heap} {locs : List Loc} {cells slots : Nat}
variable {T : State}
theorem vx_callVN (X : Stand p l e R s m args below meth c T locs cells slots) (hexec : p.tables.exec = Jvm.exec) {own C : String} {index : Nat} {host : String} {y : MethodName} {bytes : ByteArray} {maxL : Nat} {ret : Option FieldType}
    (hown : s.vm.findClass own = some m.cls) (hlink : (Cond.methodLinkNest own index y host).before args s = true) (hinst : (Cond.instanceMethod y).before args s = true) (hsel : (Cond.selects C y y).before args s = true)
    (hcode : (Cond.code y bytes maxL ret).before args s = true) (hy : y.cls ≠ "java/lang/invoke/MethodHandle" ∧ y.cls ≠ "java/lang/invoke/VarHandle")
    {W : Nat} {Pre : Pt → Array Value → Prop} {Post : Pt → Array Value → Option Value → Pt → Prop} {PostX : Pt → Array Value → Addr → Pt → Prop} (hK : vx_Back l R p e below s args y 3 W Pre Post PostX)
    {b : Addr} {cellB : Cell} (hcell : T.heap[b]? = some cellB) (hobj : cellB.vm.isStatics = false) (hcls : s.vm.findClass C = some cellB.cls)
    {g : JFrame} (hg : g.method = m) (hsize : g.locals.size = c.maxLocals) {argsL rest : List Value} (hlen : ∀ sig, parseMethodDescriptor y.desc = some sig → argsL.length = sig.parameters.length)
    (hstack : g.stack = argsL.reverse ++ .ref b :: rest) (hW : 2 * g.monitorRoom + (rest.map fun v => v.category).sum ≤ W) (hdg : decode c.code g.pc = .ok (.invokevirtual index, 3))
    (hpre : ∀ vm₁, s.WarmedH vm₁ → Pre ⟨T.setVm vm₁, locs, cells, slots⟩ (Value.ref b :: argsL).toArray) :
    (∃ (v : Option Value) (vm₁ : Vm) (B : Pt), s.WarmedH vm₁ ∧ Stand p l e R s m args below meth c B.U B.locs B.cells B.slots ∧ Post ⟨T.setVm vm₁, locs, cells, slots⟩ (Value.ref b :: argsL).toArray v B ∧
      ∀ target, Steps p.tables e below (B.U.setTop { g with pc := g.pc + 3, stack := v.toList ++ rest }) target → Steps p.tables e below (T.setTop g) target) ∨
    (∃ (q : Addr) (vm₁ : Vm) (B : Pt), s.WarmedH vm₁ ∧ Stand p l e R s m args below meth c B.U B.locs B.cells B.slots ∧ PostX ⟨T.setVm vm₁, locs, cells, slots⟩ (Value.ref b :: argsL).toArray q B ∧
      Steps p.tables e below (T.setTop g) ((B.U.setTop { g with stack := rest }).pushFrame (.throwing q))) := by
  obtain ⟨mk, methM, hnamed, hmethM, hstM, habM⟩ := Cond.instanceMethod_spec hinst
  obtain ⟨methM', cM, hmethM', -, -, -, -, -, -, hsigM⟩ := Cond.code_spec hnamed hcode
  cases hmethM.symm.trans hmethM'
  obtain ⟨c2, r2, m2, q1, q2, q3, q4, kP, hkP, hkPi⟩ := Cond.selects_spec hsel
  cases hcls.symm.trans q1
  cases (State.methodFound?_of_named hnamed hy).symm.trans q2
  cases hnamed.symm.trans q3
  have hselP : selectMethod e.platform s.vm cellB.cls mk = .method mk := by rw [Launch.admits_selectMethod X.admits]; exact q4
  obtain ⟨vm₁, X₁, hstep₁⟩ := X.invokevirtualNest hexec hown hlink hnamed hmethM hstM hkP hkPi hy (a := b) (cell := cellB) hcell
    (fun z h => by rw [h] at hobj; cases hobj) hselP hmethM habM hkP hkPi (g := g) hg (argsL := argsL) (rest := rest) (hlen _ hsigM) hstack hdg
  rcases hK m meth c ⟨T.setVm vm₁, locs, cells, slots⟩ { g with stack := rest } (.invokevirtual index) mk (Value.ref b :: argsL).toArray X₁ hg hsize hdg hW (X₁.named hnamed) (hpre vm₁ X₁.warmed) with ⟨v, B, X', hpost, hsteps⟩ | ⟨q, B, X', hpost, hsteps⟩
  · exact Or.inl ⟨v, vm₁, B, X₁.warmed, X', hpost, fun target h => hstep₁ _ fun acts => by rw [doInvoke_state]; exact hsteps.trans h⟩
  · exact Or.inr ⟨q, vm₁, B, X₁.warmed, X', hpost, hstep₁ _ fun acts => by rw [doInvoke_state]; exact hsteps⟩
theorem vx_callSN (X : Stand p l e R s m args below meth c T locs cells slots) (hexec : p.tables.exec = Jvm.exec) {own : String} {index : Nat} {host : String} {y : MethodName} {bytes : ByteArray} {maxL : Nat} {ret : Option FieldType}
    (hown : s.vm.findClass own = some m.cls) (hlink : (Cond.methodLinkNest own index y host).before args s = true) (hstat : (Cond.static y).before args s = true) (hinit : (Cond.initialized y.cls).before args s = true)
    (hcode : (Cond.code y bytes maxL ret).before args s = true) (hy : y.cls ≠ "java/lang/invoke/MethodHandle" ∧ y.cls ≠ "java/lang/invoke/VarHandle")
    {W : Nat} {Pre : Pt → Array Value → Prop} {Post : Pt → Array Value → Option Value → Pt → Prop} {PostX : Pt → Array Value → Addr → Pt → Prop} (hK : vx_Back l R p e below s args y 3 W Pre Post PostX)
    {g : JFrame} (hg : g.method = m) (hsize : g.locals.size = c.maxLocals) {argsL rest : List Value} (hlen : ∀ sig, parseMethodDescriptor y.desc = some sig → argsL.length = sig.parameters.length)
    (hstack : g.stack = argsL.reverse ++ rest) (hW : 2 * g.monitorRoom + (rest.map fun v => v.category).sum ≤ W) (hdg : decode c.code g.pc = .ok (.invokestatic index, 3))
    (hpre : ∀ vm₁, s.WarmedH vm₁ → Pre ⟨T.setVm vm₁, locs, cells, slots⟩ argsL.toArray) :
    (∃ (v : Option Value) (vm₁ : Vm) (B : Pt), s.WarmedH vm₁ ∧ Stand p l e R s m args below meth c B.U B.locs B.cells B.slots ∧ Post ⟨T.setVm vm₁, locs, cells, slots⟩ argsL.toArray v B ∧
      ∀ target, Steps p.tables e below (B.U.setTop { g with pc := g.pc + 3, stack := v.toList ++ rest }) target → Steps p.tables e below (T.setTop g) target) ∨
    (∃ (q : Addr) (vm₁ : Vm) (B : Pt), s.WarmedH vm₁ ∧ Stand p l e R s m args below meth c B.U B.locs B.cells B.slots ∧ PostX ⟨T.setVm vm₁, locs, cells, slots⟩ argsL.toArray q B ∧
      Steps p.tables e below (T.setTop g) ((B.U.setTop { g with stack := rest }).pushFrame (.throwing q))) := by
  obtain ⟨mk, hnamed⟩ := Cond.code_named hcode
  obtain ⟨methM, cM, hmethM, -, -, -, -, -, -, hsigM⟩ := Cond.code_spec hnamed hcode
  have hstatic : methM.isStatic = true := Cond.static_spec hnamed hmethM hstat
  obtain ⟨kP, hkP, -⟩ := className_of_methodNamed hnamed
  have hinitP : kP.init = .initialized := Cond.initialized_spec (findClass_of_methodNamed hnamed) hkP hinit
  obtain ⟨vm₁, X₁, hstep₁⟩ := X.invokestaticNest hexec hown hlink hnamed hmethM hstatic hkP hinitP hy (g := g) hg (argsL := argsL) (rest := rest) (hlen _ hsigM) hstack hdg
  rcases hK m meth c ⟨T.setVm vm₁, locs, cells, slots⟩ { g with stack := rest } (.invokestatic index) mk argsL.toArray X₁ hg hsize hdg hW (X₁.named hnamed) (hpre vm₁ X₁.warmed) with ⟨v, B, X', hpost, hsteps⟩ | ⟨q, B, X', hpost, hsteps⟩
  · exact Or.inl ⟨v, vm₁, B, X₁.warmed, X', hpost, fun target h => hstep₁ _ fun acts => by rw [doInvoke_state]; exact hsteps.trans h⟩
  · exact Or.inr ⟨q, vm₁, B, X₁.warmed, X', hpost, hstep₁ _ fun acts => by rw [doInvoke_state]; exact hsteps⟩
theorem vx_runVN {y : MethodName} {bytes cc : ByteArray} {maxL nL mc ms n index : Nat} {ret : Option FieldType} {ws : List Cond} {rm : Room} {Pc : Array Value → State → Prop} {Qc : Array Value → State → Outcome → State → Prop} {XC : String → State → State → Prop} {free : Addr → Prop} {Ts : List Cond} {own C host : String} {b : Addr} {As rest : List Value} {g : JFrame}
    (S : CallFix p m c cc nL s args Ts own) (hM : vx_Met l y ws rm Pc Qc XC mc ms free) (cw : va_CN R s args own index y host bytes maxL ret ws rm mc ms n ∧ (Cond.instanceMethod y).before args s = true ∧ (Cond.selects C y y).before args s = true) (hp : PreV s H C b Pc As)
    (hg : g.method = m) (hn : As.length = n) (hsize : g.locals.size = nL) (hstack : g.stack = As.reverse ++ .ref b :: rest) (hW : 2 * g.monitorRoom + (rest.map fun v => v.category).sum ≤ 8) (hdg : decode cc g.pc = .ok (.invokevirtual index, 3)) (hf : cells + mc ≤ R.cells ∧ slots + ms ≤ R.slots) :
    vx_Run p l e R s m args below meth c H locs cells slots mc ms g rest (Qc (Value.ref b :: As).toArray) XC free := by
  obtain ⟨⟨⟨hrc, hrs, hfr, hlo, hws, hcw⟩, hcode, hini, hy, hlen, hl⟩, hx1, hx2⟩ := cw
  have hK : vx_Back l R p e below s args y 3 8 (PreOf R mc ms Pc) (PostOf Qc mc ms free) (vx_Post XC mc ms free) := vx_back (bytes := bytes) (maxL := maxL) (ret := ret) hM hp.1 hrc hrs hfr hlo hws hcw (fun a' U hW => word_at hW (Or.inl (by first | rfl | simp [Cond.onTables, Cond.keeps, Cond.steady])) hini)
  obtain ⟨hx, hb, hml, ho, -⟩ := S
  obtain ⟨-, ⟨cellB, hcB, hoB, hclB⟩, hPc⟩ := hp
  intro T hT X
  rcases vx_callVN X hx (C := C) (bytes := bytes) (maxL := maxL) (ret := ret) ho hl hx1 hx2 hcode hy hK (by rw [hT]; exact hcB) hoB hclB hg (hsize.trans hml.symm) (argsL := As) (rest := rest) (fun sig h => hn.trans (hlen sig h)) hstack hW (by rw [hb]; exact hdg)
    (fun vm₁ hW₁ => ⟨hf.1, hf.2, hPc (T.setVm vm₁) hT hW₁⟩) with ⟨v, vm₁, ⟨U', l2, c2, s2⟩, hW₁, X', ⟨g', mk, t, L, e1, e2, hq, h1, hL, h2, h3⟩, st⟩ | ⟨q, vm₁, ⟨U', l2, c2, s2⟩, hW₁, X', ⟨g', mk, t, L, E, ce, e1, e2, hq, hce, hcv, hcl, h1, hL, h2, h3⟩, st⟩
  · dsimp only [Pt.U, Pt.locs, Pt.cells, Pt.slots] at X' e1 e2 h1 h2 h3 st
    subst h1; subst h2; subst h3
    exact Or.inl ⟨v, (T.setVm vm₁).calling g' mk (Value.ref b :: As).toArray, t, U', L, hT, X', hL, e1, e2, hq, st⟩
  · dsimp only [Pt.U, Pt.locs, Pt.cells, Pt.slots] at X' e1 e2 h1 h2 h3 st hcl
    subst h1; subst h2; subst h3
    exact Or.inr ⟨q, (T.setVm vm₁).calling g' mk (Value.ref b :: As).toArray, t, U', L, E, ce, hT, X', hL, e1, e2, hq, hce, hcv, vx_cls hW₁ hcl, st⟩
theorem vx_runSN {y : MethodName} {bytes cc : ByteArray} {maxL nL mc ms n index : Nat} {ret : Option FieldType} {ws : List Cond} {rm : Room} {Pc : Array Value → State → Prop} {Qc : Array Value → State → Outcome → State → Prop} {XC : String → State → State → Prop} {free : Addr → Prop} {Ts : List Cond} {own host : String} {As rest : List Value} {g : JFrame}
    (S : CallFix p m c cc nL s args Ts own) (hM : vx_Met l y ws rm Pc Qc XC mc ms free) (cw : va_CN R s args own index y host bytes maxL ret ws rm mc ms n ∧ (Cond.static y).before args s = true ∧ True) (hp : PreS s H Pc As)
    (hg : g.method = m) (hn : As.length = n) (hsize : g.locals.size = nL) (hstack : g.stack = As.reverse ++ rest) (hW : 2 * g.monitorRoom + (rest.map fun v => v.category).sum ≤ 8) (hdg : decode cc g.pc = .ok (.invokestatic index, 3)) (hf : cells + mc ≤ R.cells ∧ slots + ms ≤ R.slots) :
    vx_Run p l e R s m args below meth c H locs cells slots mc ms g rest (Qc As.toArray) XC free := by
  obtain ⟨⟨⟨hrc, hrs, hfr, hlo, hws, hcw⟩, hcode, hini, hy, hlen, hl⟩, hx1, hx2⟩ := cw
  have hK : vx_Back l R p e below s args y 3 8 (PreOf R mc ms Pc) (PostOf Qc mc ms free) (vx_Post XC mc ms free) := vx_back (bytes := bytes) (maxL := maxL) (ret := ret) hM hp.1 hrc hrs hfr hlo hws hcw (fun a' U hW => word_at hW (Or.inl (by first | rfl | simp [Cond.onTables, Cond.keeps, Cond.steady])) hini)
  obtain ⟨hx, hb, hml, ho, -⟩ := S
  have hPc := hp.2
  intro T hT X
  rcases vx_callSN X hx (bytes := bytes) (maxL := maxL) (ret := ret) ho hl hx1 hini hcode hy hK hg (hsize.trans hml.symm) (argsL := As) (rest := rest) (fun sig h => hn.trans (hlen sig h)) hstack hW (by rw [hb]; exact hdg)
    (fun vm₁ hW₁ => ⟨hf.1, hf.2, hPc (T.setVm vm₁) hT hW₁⟩) with ⟨v, vm₁, ⟨U', l2, c2, s2⟩, hW₁, X', ⟨g', mk, t, L, e1, e2, hq, h1, hL, h2, h3⟩, st⟩ | ⟨q, vm₁, ⟨U', l2, c2, s2⟩, hW₁, X', ⟨g', mk, t, L, E, ce, e1, e2, hq, hce, hcv, hcl, h1, hL, h2, h3⟩, st⟩
  · dsimp only [Pt.U, Pt.locs, Pt.cells, Pt.slots] at X' e1 e2 h1 h2 h3 st
    subst h1; subst h2; subst h3
    exact Or.inl ⟨v, (T.setVm vm₁).calling g' mk As.toArray, t, U', L, hT, X', hL, e1, e2, hq, st⟩
  · dsimp only [Pt.U, Pt.locs, Pt.cells, Pt.slots] at X' e1 e2 h1 h2 h3 st hcl
    subst h1; subst h2; subst h3
    exact Or.inr ⟨q, (T.setVm vm₁).calling g' mk As.toArray, t, U', L, E, ce, hT, X', hL, e1, e2, hq, hce, hcv, vx_cls hW₁ hcl, st⟩
end
/-! ===== END ===== -/
/-! ===== BEGIN .. of methods that hand back an object of the pool ===== -/
section
variable {p : Program} {l : Launch} {e : Env} {R : Room} {s : State} {m : MethodId} {args : Array Value} {below : List Frame} {meth : Method} {c : Code} {H : Heap} {locs : List Loc} {cells slots : Nat} {Q : State → Prop}
variable {mc ms : Nat} {free : Addr → Prop} {A0 A1 : Nat → Prop} {H0 : Heap} {a : Array Value} {pc : Nat} {ls : Array Slot} {st0 rest : List Value}
theorem vx_callq {S SX : Type} {post : Option Nat → S → Prop} {px : SX → Prop} {B : S → State → Prop} {BX : String → SX → State → Prop} {AX : Nat → Prop} (hr : vx_Run p l e R s m args below meth c H locs cells slots mc ms (F0 m pc ls st0) rest (va_Qq post B A1 a) (vx_X px BX AX) free) (hS : va_S A0 H0 H locs) (hA : ∀ q, q < H.size → A1 q → A0 q) (hf : ∀ q, free q → A0 q) (hAX : ∀ q, q < H.size → AX q → A0 q)
    (kx : ∀ (E : String) (ce : Cell) (q9 : Addr) (u : SX) (t : State) (H1 : Heap) (locs1 : List Loc), t.heap = H1 → s.vm.Alike t.vm → px u → BX E u t → H.size ≤ H1.size → (∀ q : Nat, q < H.size → ¬ AX q → H1[q]? = H[q]?) → va_S A0 H0 H1 locs1 → H1[q9]? = some ce → ce.vm = .none → s.vm.findClass E = some ce.cls → vx_W p l e R s m args below meth c H1 locs1 (cells + mc) (slots + ms) Q (F0 m pc ls rest) q9)
    (kk : ∀ (r : Option Nat) (u : S) (t : State) (H1 : Heap) (locs1 : List Loc), t.heap = H1 → s.vm.Alike t.vm → post r u → B u t → H.size ≤ H1.size → (∀ q : Nat, q < H.size → ¬ A1 q → H1[q]? = H[q]?) → va_S A0 H0 H1 locs1 → W p l e R s m args below meth c H1 locs1 (cells + mc) (slots + ms) Q (F0 m (pc + 3) ls (va_rf r :: rest))) : W p l e R s m args below meth c H locs cells slots Q (F0 m pc ls st0) := by
  intro T hT X
  rcases hr T hT X with ⟨v, st₀, t, T', L, h0, X', hL, e1, e2, ⟨⟨r, u, hv, hp, hb⟩, hF⟩, st⟩ | ⟨q, st₀, t, T', L, E, ce, h0, X', hL, e1, e2, ⟨u, hp, hb, hF⟩, hce, hcv, hcl, st⟩
  · cases hv
    obtain ⟨k1, k2, k3⟩ := vx_keep h0 e1 hS hA hf hL hF
    obtain ⟨t2, a1, b1⟩ := kk r u t T'.heap (locs ++ L) e1.symm (by rw [← e2]; exact X'.warmed.alike) hp hb k1 k2 k3 T' rfl X'
    exact ⟨t2, st t2 a1, b1⟩
  · obtain ⟨k1, k2, k3⟩ := vx_keep h0 e1 hS hAX hf hL hF
    obtain ⟨t2, a1, b1⟩ := kx E ce q u t T'.heap (locs ++ L) e1.symm (by rw [← e2]; exact X'.warmed.alike) hp hb k1 k2 k3 (by rw [e1]; exact hce) hcv hcl T' rfl X'
    exact ⟨t2, st.trans a1, b1⟩
end
/-! ===== END ===== -/
end
section
/-! THE WORLD: what every cell that the run has made holds, by its address. A reference is a number, 0 is null. Tags: 1 Endings, 2 Row, 3 Span, 4 Word, 5 Spanjudge, 6 SpanjudgeModel; 7 int[], 8 long[], 9 double[], 10 Row[], 11 Span[], 12 Word[], 13 int[][]. A field's number: 8 times its class's place in vwCl, and its slot. -/
abbrev sj_W : Type := (Nat → Nat) × (Nat → Nat) × (Nat → Nat → Int32) × (Nat → Nat → Nat) × (Nat → Nat → Int32) × (Nat → Nat → Int64) × (Nat → Nat → Nat) × (Nat → Nat → UInt64)
def sj_T (w : sj_W) : Nat → Nat := w.1
def sj_N (w : sj_W) : Nat → Nat := w.2.1
def sj_I (w : sj_W) : Nat → Nat → Int32 := w.2.2.1
def sj_A (w : sj_W) : Nat → Nat → Nat := w.2.2.2.1
def sj_i (w : sj_W) : Nat → Nat → Int32 := w.2.2.2.2.1
def sj_l (w : sj_W) : Nat → Nat → Int64 := w.2.2.2.2.2.1
def sj_r (w : sj_W) : Nat → Nat → Nat := w.2.2.2.2.2.2.1
def sj_d (w : sj_W) : Nat → Nat → UInt64 := w.2.2.2.2.2.2.2
def sj_u {α : Type} (f : Nat → Nat → α) (x y : Nat) (v : α) : Nat → Nat → α := fun a b => if a = x ∧ b = y then v else f a b
def sj_sI (w : sj_W) (x y : Nat) (v : Int32) : sj_W := (sj_T w, sj_N w, sj_u (sj_I w) x y v, sj_A w, sj_i w, sj_l w, sj_r w, sj_d w)
def sj_sA (w : sj_W) (x y : Nat) (v : Nat) : sj_W := (sj_T w, sj_N w, sj_I w, sj_u (sj_A w) x y v, sj_i w, sj_l w, sj_r w, sj_d w)
def sj_si (w : sj_W) (x y : Nat) (v : Int32) : sj_W := (sj_T w, sj_N w, sj_I w, sj_A w, sj_u (sj_i w) x y v, sj_l w, sj_r w, sj_d w)
def sj_sl (w : sj_W) (x y : Nat) (v : Int64) : sj_W := (sj_T w, sj_N w, sj_I w, sj_A w, sj_i w, sj_u (sj_l w) x y v, sj_r w, sj_d w)
def sj_sr (w : sj_W) (x y : Nat) (v : Nat) : sj_W := (sj_T w, sj_N w, sj_I w, sj_A w, sj_i w, sj_l w, sj_u (sj_r w) x y v, sj_d w)
def sj_sd (w : sj_W) (x y : Nat) (v : UInt64) : sj_W := (sj_T w, sj_N w, sj_I w, sj_A w, sj_i w, sj_l w, sj_r w, sj_u (sj_d w) x y v)
/-- a new object or array q of this tag and length, all 0 -/
def sj_nw (w : sj_W) (q t n : Nat) : sj_W := (fun a => if a = q then t else sj_T w a, fun a => if a = q then n else sj_N w a, fun f a => if a = q then 0 else sj_I w f a, fun f a => if a = q then 0 else sj_A w f a, fun a j => if a = q then 0 else sj_i w a j, fun a j => if a = q then 0 else sj_l w a j, fun a j => if a = q then 0 else sj_r w a j, fun a j => if a = q then 0 else sj_d w a j)
/-- new int[n][k]: the outer one q, the inner ones r 0, r 1 .. -/
def sj_nm (w : sj_W) (q : Nat) (r : Nat → Nat) (n k : Nat) : sj_W := (fun a => if a = q then 13 else if a ∈ (List.range n).map r then 7 else sj_T w a, fun a => if a = q then n else if a ∈ (List.range n).map r then k else sj_N w a, sj_I w, sj_A w, fun a j => if a ∈ (List.range n).map r then 0 else sj_i w a j, sj_l w, fun a j => if a = q then (if j < n then r j else 0) else sj_r w a j, sj_d w)
/-- how the world reads behind a writing -/
theorem sj_rd : ((∀ w x y v, sj_T (sj_sI w x y v) = sj_T w) ∧ (∀ w x y v, sj_N (sj_sI w x y v) = sj_N w) ∧ (∀ w x y v a b, sj_I (sj_sI w x y v) a b = if a = x ∧ b = y then v else sj_I w a b) ∧ (∀ w x y v, sj_A (sj_sI w x y v) = sj_A w) ∧ (∀ w x y v, sj_i (sj_sI w x y v) = sj_i w) ∧ (∀ w x y v, sj_l (sj_sI w x y v) = sj_l w) ∧ (∀ w x y v, sj_r (sj_sI w x y v) = sj_r w) ∧ (∀ w x y v, sj_d (sj_sI w x y v) = sj_d w)) ∧
    ((∀ w x y v, sj_T (sj_sA w x y v) = sj_T w) ∧ (∀ w x y v, sj_N (sj_sA w x y v) = sj_N w) ∧ (∀ w x y v a b, sj_A (sj_sA w x y v) a b = if a = x ∧ b = y then v else sj_A w a b) ∧ (∀ w x y v, sj_I (sj_sA w x y v) = sj_I w) ∧ (∀ w x y v, sj_i (sj_sA w x y v) = sj_i w) ∧ (∀ w x y v, sj_l (sj_sA w x y v) = sj_l w) ∧ (∀ w x y v, sj_r (sj_sA w x y v) = sj_r w) ∧ (∀ w x y v, sj_d (sj_sA w x y v) = sj_d w)) ∧
    ((∀ w x y v, sj_T (sj_si w x y v) = sj_T w) ∧ (∀ w x y v, sj_N (sj_si w x y v) = sj_N w) ∧ (∀ w x y v a b, sj_i (sj_si w x y v) a b = if a = x ∧ b = y then v else sj_i w a b) ∧ (∀ w x y v, sj_A (sj_si w x y v) = sj_A w) ∧ (∀ w x y v, sj_I (sj_si w x y v) = sj_I w) ∧ (∀ w x y v, sj_l (sj_si w x y v) = sj_l w) ∧ (∀ w x y v, sj_r (sj_si w x y v) = sj_r w) ∧ (∀ w x y v, sj_d (sj_si w x y v) = sj_d w)) ∧
    ((∀ w x y v, sj_T (sj_sl w x y v) = sj_T w) ∧ (∀ w x y v, sj_N (sj_sl w x y v) = sj_N w) ∧ (∀ w x y v a b, sj_l (sj_sl w x y v) a b = if a = x ∧ b = y then v else sj_l w a b) ∧ (∀ w x y v, sj_A (sj_sl w x y v) = sj_A w) ∧ (∀ w x y v, sj_I (sj_sl w x y v) = sj_I w) ∧ (∀ w x y v, sj_i (sj_sl w x y v) = sj_i w) ∧ (∀ w x y v, sj_r (sj_sl w x y v) = sj_r w) ∧ (∀ w x y v, sj_d (sj_sl w x y v) = sj_d w)) ∧
    ((∀ w x y v, sj_T (sj_sr w x y v) = sj_T w) ∧ (∀ w x y v, sj_N (sj_sr w x y v) = sj_N w) ∧ (∀ w x y v a b, sj_r (sj_sr w x y v) a b = if a = x ∧ b = y then v else sj_r w a b) ∧ (∀ w x y v, sj_A (sj_sr w x y v) = sj_A w) ∧ (∀ w x y v, sj_I (sj_sr w x y v) = sj_I w) ∧ (∀ w x y v, sj_l (sj_sr w x y v) = sj_l w) ∧ (∀ w x y v, sj_i (sj_sr w x y v) = sj_i w) ∧ (∀ w x y v, sj_d (sj_sr w x y v) = sj_d w)) ∧
    ((∀ w x y v, sj_T (sj_sd w x y v) = sj_T w) ∧ (∀ w x y v, sj_N (sj_sd w x y v) = sj_N w) ∧ (∀ w x y v a b, sj_d (sj_sd w x y v) a b = if a = x ∧ b = y then v else sj_d w a b) ∧ (∀ w x y v, sj_A (sj_sd w x y v) = sj_A w) ∧ (∀ w x y v, sj_I (sj_sd w x y v) = sj_I w) ∧ (∀ w x y v, sj_l (sj_sd w x y v) = sj_l w) ∧ (∀ w x y v, sj_i (sj_sd w x y v) = sj_i w) ∧ (∀ w x y v, sj_r (sj_sd w x y v) = sj_r w)) ∧
    ((∀ w q t n a, sj_T (sj_nw w q t n) a = if a = q then t else sj_T w a) ∧ (∀ w q t n a, sj_N (sj_nw w q t n) a = if a = q then n else sj_N w a) ∧ (∀ w q t n f a, sj_I (sj_nw w q t n) f a = if a = q then 0 else sj_I w f a) ∧ (∀ w q t n f a, sj_A (sj_nw w q t n) f a = if a = q then 0 else sj_A w f a) ∧ (∀ w q t n a j, sj_i (sj_nw w q t n) a j = if a = q then 0 else sj_i w a j) ∧ (∀ w q t n a j, sj_l (sj_nw w q t n) a j = if a = q then 0 else sj_l w a j) ∧ (∀ w q t n a j, sj_r (sj_nw w q t n) a j = if a = q then 0 else sj_r w a j) ∧ (∀ w q t n a j, sj_d (sj_nw w q t n) a j = if a = q then 0 else sj_d w a j)) := by
  refine ⟨⟨?_, ?_, ?_, ?_, ?_, ?_, ?_, ?_⟩, ⟨?_, ?_, ?_, ?_, ?_, ?_, ?_, ?_⟩, ⟨?_, ?_, ?_, ?_, ?_, ?_, ?_, ?_⟩, ⟨?_, ?_, ?_, ?_, ?_, ?_, ?_, ?_⟩, ⟨?_, ?_, ?_, ?_, ?_, ?_, ?_, ?_⟩, ⟨?_, ?_, ?_, ?_, ?_, ?_, ?_, ?_⟩, ⟨?_, ?_, ?_, ?_, ?_, ?_, ?_, ?_⟩⟩ <;> intros <;> rfl
def sj_rf (f : Nat) : Bool := f == 0 || f == 1 || f == 2 || f == 3 || f == 5 || f == 8 || f == 24 || f == 32 || f == 33 || f == 34 || f == 35 || f == 40 || f == 41 || f == 42 || f == 43 || f == 44 || f == 45
def sj_nf (c : Nat) : Nat := if c = 0 then 8 else if c = 1 then 2 else if c = 2 then 3 else if c = 3 then 3 else if c = 4 then 5 else 8
def sj_o (n : Nat) : Option Nat := if n = 0 then none else some n
def sj_fv (w : sj_W) (c a k : Nat) : Value := if sj_rf (8 * c + k) = true then va_rf (sj_o (sj_A w (8 * c + k) a)) else .int (sj_I w (8 * c + k) a)
def sj_fs (w : sj_W) (c a : Nat) : List Value := (List.range (sj_nf c)).map (sj_fv w c a)
/-- an array's contents -/
def sj_pl (t : Nat) (w : sj_W) (a : Nat) : (Nat → Int32) ⊕ (Nat → Int64) ⊕ (Nat → UInt32) ⊕ (Nat → UInt64) ⊕ (Nat → Option Nat) := if t = 7 then .inl (sj_i w a) else if t = 8 then .inr (.inl (sj_l w a)) else if t = 9 then .inr (.inr (.inr (.inl (sj_d w a)))) else .inr (.inr (.inr (.inr (fun j => sj_o (sj_r w a j)))))
def sj_e (cA : Nat → ClassId) (w : sj_W) (a : Nat) : va_E := if sj_T w a ≤ 6 then .inr (sj_T w a - 1, sj_fs w (sj_T w a - 1) a) else .inl (cA (sj_T w a - 7), sj_N w a, sj_pl (sj_T w a) w a)
def sj_tys (cA : Nat → ClassId) : List (ClassId × FieldType) := [(cA 0, .int), (cA 1, .long), (cA 2, .double), (cA 3, .object RX1), (cA 4, .object RX3), (cA 5, .object RX4), (cA 6, .array .int)]
/-- the tables' numbers of classes and slots, of array classes, and the address from which on all cells are the run's -/
abbrev sj_G : Type := va_G × (Nat → ClassId) × Nat
def sj_F (G : sj_G) : Nat → Prop := fun q => G.2.2 ≤ q
/-- the heap holds the world -/
def sj_M (G : sj_G) (w : sj_W) (H : Heap) : Prop := ∃ L : List Nat, (∀ a, sj_T w a ≠ 0 ↔ a ∈ L) ∧ va_P G.1 vwCl ([] ++ va_pl L (sj_e G.2.1 w)) H ∧ va_D (sj_F G) ([] ++ va_pl L (sj_e G.2.1 w))
/-- the words that hold in every state of the run -/
def sj_Big : List Cond := lw_tbl.filter goodWord
def sj_nok (w : Cond) : Bool := match w with
  | .castable _ _ => true
  | .declares _ => true
  | .fieldLinkNest .. => true
  | .methodLinkNest .. => true
  | _ => false
def sj_Nws : List Cond := lw_tbl.filter sj_nok
theorem sj_big {w : Cond} (h : w ∈ lw_tbl) (g : goodWord w = true) : w ∈ sj_Big := List.mem_filter.mpr ⟨h, g⟩
theorem sj_nws {w : Cond} (h : w ∈ lw_tbl) (g : sj_nok w = true) : w ∈ sj_Nws := List.mem_filter.mpr ⟨h, g⟩
theorem sj_Nw_use {w : Cond} (g : sj_nok w = true) {A : Array Value} {U : State} (h : va_Nw w U) : w.before A U = true := by
  cases w <;> first | exact va_Nw.use rfl h | (cases g)
theorem sj_Nw_warm {w : Cond} (g : sj_nok w = true) {s U : State} (hW : s.WarmedH U.vm) (h : va_Nw w s) : va_Nw w U := by
  cases w <;> first | exact va_Nw.warmC hW h | exact va_Nw.warmD hW h | exact va_Nw.warmF hW h | exact va_Nw.warmM hW h | (cases g)
theorem sj_goodIn {big : List Cond} (hb : ∀ w ∈ sj_Big, w ∈ big) {x : Cond} (hx : x ∈ sj_Big) : GoodIn big (x :: sj_Big) := by
  have key : ∀ w ∈ sj_Big, w ∈ big ∧ ((w.onTables && w.keeps) = true ∨ ∃ ty, w = .arrayClass ty) := fun w h => ⟨hb w h, good_of_word (List.mem_filter.mp h).2⟩
  intro w hw
  rcases List.mem_cons.mp hw with h | h
  · exact key w (h ▸ hx)
  · exact key w h
def sj_least (j : Nat) : Int64 := if j = 0 then -128 else if j = 1 then -32768 else if j = 2 then -2147483648 else -9223372036854775808
/-- the class's texts: the owner, the constant's place, the text -/
def sj_strs : List (String × Nat × String) := lw_tbl.filterMap (fun w => match w with
  | .stringRef o k t => some (o, k, t)
  | _ => none)
def sj_AO : List String := [RX1, RX3, RX4]
def sj_Ncs : List (String × String) := [("java/lang/IndexOutOfBoundsException", "java/lang/IllegalArgumentException"), ("java/lang/IllegalStateException", "java/lang/IllegalArgumentException"), ("java/lang/IllegalStateException", "java/lang/IndexOutOfBoundsException"), ("java/lang/IllegalArgumentException", "java/lang/IndexOutOfBoundsException")]
/-- what holds of the machine at every method's entry -/
def sj_K (G : sj_G) (U : State) : Prop := va_K G.1 vwCl (sj_tys G.2.1) U ∧ vx_Zq Bundle.tN "UNASSIGNED_STACK" Bundle.steD (sj_F G) U U.heap ∧ vx_Zq Bundle.tN "SUPPRESSED_SENTINEL" Bundle.listD (sj_F G) U U.heap ∧
  (∃ t : Nat, va_Z RX6 "LEAST" "[J" (.ref t) (sj_F G) U U.heap ∧ va_T .long t 4 (fun j => .long (sj_least j)) (sj_F G) U U.heap) ∧ (∀ x ∈ sj_strs, ∃ sa : Nat, vk_R x.1 x.2.1 x.2.2 sa U) ∧ (∀ z ∈ sj_Nws, va_Nw z U) ∧ (∀ C ∈ sj_AO, va_AO C U) ∧ va_AOA .int U ∧ (∀ x ∈ sj_Ncs, va_Nc x.1 x.2 U) ∧ 0 < G.2.2 ∧ G.2.2 ≤ U.heap.size
theorem sj_K.go {G : sj_G} {s U : State} {H : Heap} {locs : List Loc} (h : sj_K G s) (hS : va_S (sj_F G) s.heap H locs) (hU : U.heap = H) (hW : s.WarmedH U.vm) : sj_K G U := by
  obtain ⟨h1, h2, h3, ⟨t, h4, h5⟩, h6, h7, h8, h9, h10, h11, h12⟩ := h
  subst hU
  exact ⟨va_K.moved hW.alike h1, vx_Zq.moved hW.alike (h2.kept hS.2.1), vx_Zq.moved hW.alike (h3.kept hS.2.1), ⟨t, va_Z.moved hW.alike (h4.kept hS.2.1), va_T.moved hW.alike (h5.kept hS.2.1)⟩,
    fun x hx => (h6 x hx).elim fun sa q => ⟨sa, vk_R.warm hW q⟩, fun z hz => sj_Nw_warm (List.mem_filter.mp hz).2 hW (h7 z hz), fun C hC => va_AO.moved hW.alike (h8 C hC), va_AOA.moved hW.alike h9, fun x hx => va_Nc.moved hW.alike (h10 x hx), h11, Nat.le_trans h12 hS.1⟩
theorem sj_K.blind {G : sj_G} {U : State} {g : JFrame} {mk : MethodId} {a : Array Value} (h : sj_K G U) : sj_K G (U.calling g mk a) := sj_K.go (U := U.calling g mk a) h (va_S.rf (A := sj_F G)) rfl (State.WarmedH.refl U)
/-- a method's frame: the machine, its code, its class, the words, what holds -/
def sj_C (G : sj_G) (p : Program) (l : Launch) (s : State) (m : MethodId) (args : Array Value) (c : Code) (cc : ByteArray) (own : String) (nL : Nat) : Prop := p.tables.exec = Jvm.exec ∧ c.code = cc ∧ c.maxLocals = nL ∧ s.vm.findClass own = some m.cls ∧ (∀ w ∈ sj_Big, w.before args s = true) ∧ sj_K G s ∧ l.stackTraces = false
/-- the heap now, and what has been written since the method's start -/
def sj_H (G : sj_G) (s : State) (w : sj_W) (H : Heap) (locs : List Loc) : Prop := sj_M G w H ∧ va_S (sj_F G) s.heap H locs
theorem sj_hA {G : sj_G} {s : State} (h : sj_K G s) : ∀ q : Nat, s.heap.size ≤ q → sj_F G q := fun q hq => Nat.le_trans h.2.2.2.2.2.2.2.2.2.2 hq
theorem sj_pos {G : sj_G} {s : State} (h : sj_K G s) : 0 < G.2.2 := h.2.2.2.2.2.2.2.2.2.1
theorem sj_eO {cA : Nat → ClassId} {w : sj_W} {a c : Nat} (hT : sj_T w a = c + 1) (h : c < 6) : sj_e cA w a = .inr (c, sj_fs w c a) := by
  unfold sj_e
  rw [hT, if_pos (by omega), Nat.add_sub_cancel]
theorem sj_eA {cA : Nat → ClassId} {w : sj_W} {a t : Nat} (hT : sj_T w a = t + 7) : sj_e cA w a = .inl (cA t, sj_N w a, sj_pl (t + 7) w a) := by
  unfold sj_e
  rw [hT, if_neg (by omega), Nat.add_sub_cancel]
theorem sj_fsg {w : sj_W} {c a k : Nat} (h : k < sj_nf c) : (sj_fs w c a)[k]? = some (sj_fv w c a k) := by
  unfold sj_fs
  rw [List.getElem?_map, List.getElem?_range h]
  rfl
theorem sj_fvI {w : sj_W} {c a k f : Nat} (hr : sj_rf f = false) (hf : f = 8 * c + k) : sj_fv w c a k = .int (sj_I w f a) := by
  subst hf
  unfold sj_fv
  rw [hr, if_neg (by decide)]
theorem sj_fvA {w : sj_W} {c a k f : Nat} (hr : sj_rf f = true) (hf : f = 8 * c + k) (hn : sj_A w f a ≠ 0) : sj_fv w c a k = .ref (sj_A w f a) := by
  subst hf
  unfold sj_fv sj_o
  rw [hr, if_pos rfl, if_neg hn]
  rfl
/-- the world of cells, with one cell changed, is the changed world's -/
theorem sj_M.set {G : sj_G} {w w' : sj_W} {H1 : Heap} {L : List Nat} {a k : Nat} {e : va_E} (hL : ∀ a, sj_T w a ≠ 0 ↔ a ∈ L) (hD : va_D (sj_F G) ([] ++ va_pl L (sj_e G.2.1 w))) (ha : a ∈ L) (hk : ([] ++ va_pl L (sj_e G.2.1 w))[k]? = some (a, sj_e G.2.1 w a))
    (hT : sj_T w' = sj_T w) (he : sj_e G.2.1 w' a = e) (ho : ∀ b, b ≠ a → sj_e G.2.1 w' b = sj_e G.2.1 w b) (hP1 : va_P G.1 vwCl (([] ++ va_pl L (sj_e G.2.1 w)).set k (a, e)) H1) (hD1 : va_D (sj_F G) (([] ++ va_pl L (sj_e G.2.1 w)).set k (a, e))) : sj_M G w' H1 := by
  rw [va_pl_set hD ha hk] at hP1 hD1
  have hf : va_up (sj_e G.2.1 w) a e = sj_e G.2.1 w' := by
    funext b
    by_cases hb : b = a
    · rw [hb, va_up_self, he]
    · rw [va_up_ne _ _ hb, ho b hb]
  rw [hf] at hP1 hD1
  exact ⟨L, fun b => by rw [hT]; exact hL b, hP1, hD1⟩
theorem sj_M.push {G : sj_G} {w w' : sj_W} {H1 : Heap} {L : List Nat} {q t : Nat} {e : va_E} (hL : ∀ a, sj_T w a ≠ 0 ↔ a ∈ L) (hP1 : va_P G.1 vwCl (([] ++ va_pl L (sj_e G.2.1 w)) ++ [(q, e)]) H1) (hD1 : va_D (sj_F G) (([] ++ va_pl L (sj_e G.2.1 w)) ++ [(q, e)])) (ht : t ≠ 0)
    (hT : ∀ a, sj_T w' a = if a = q then t else sj_T w a) (he : sj_e G.2.1 w' q = e) (ho : ∀ b, b ≠ q → sj_e G.2.1 w' b = sj_e G.2.1 w b) : sj_T w q = 0 ∧ G.2.2 ≤ q ∧ sj_M G w' H1 := by
  have hq : q ∉ L := by
    intro h
    obtain ⟨k, hk⟩ := va_pl_get (X := []) (f := sj_e G.2.1 w) h
    have hkl := (List.getElem?_eq_some_iff.mp hk).1
    have h1 : (([] ++ va_pl L (sj_e G.2.1 w)) ++ [(q, e)])[k]? = some (q, sj_e G.2.1 w q) := by rw [List.getElem?_append_left hkl]; exact hk
    have h2 : (([] ++ va_pl L (sj_e G.2.1 w)) ++ [(q, e)])[([] ++ va_pl L (sj_e G.2.1 w)).length]? = some (q, e) := by rw [List.getElem?_append_right (Nat.le_refl _), Nat.sub_self]; rfl
    have := hD1.1 k _ _ _ h1 h2 rfl
    omega
  have hq2 : G.2.2 ≤ q := hD1.2 _ (q, e) (by rw [List.getElem?_append_right (Nat.le_refl _), Nat.sub_self]; rfl)
  have e2 : ([] ++ va_pl L (sj_e G.2.1 w)) ++ [(q, e)] = [] ++ va_pl (L ++ [q]) (va_up (sj_e G.2.1 w) q e) := by
    rw [List.nil_append, List.nil_append]
    exact va_pl_push hq
  have hf : va_up (sj_e G.2.1 w) q e = sj_e G.2.1 w' := by
    funext b
    by_cases hb : b = q
    · rw [hb, va_up_self, he]
    · rw [va_up_ne _ _ hb, ho b hb]
  rw [e2, hf] at hP1 hD1
  refine ⟨Classical.byContradiction fun h => hq ((hL q).mp h), hq2, L ++ [q], fun b => ?_, hP1, hD1⟩
  rw [hT, List.mem_append, List.mem_singleton]
  by_cases hb : b = q
  · rw [if_pos hb]; exact ⟨fun _ => Or.inr hb, fun _ => ht⟩
  · rw [if_neg hb]; exact ⟨fun h => Or.inl ((hL b).mp h), fun h => (hL b).mpr (h.elim id (fun h => absurd h hb))⟩
/-- fewer cells are told -/
theorem sj_M.kept {G : sj_G} {w : sj_W} {H H1 : Heap} (h : sj_M G w H) (hk : ∀ q : Nat, q < H.size → H1[q]? = H[q]?) : sj_M G w H1 := by
  obtain ⟨L, hL, hP, hD⟩ := h
  exact ⟨L, hL, hP.kept (fun k x hx => hk x.1 ((hP k x hx).lt)), hD⟩
end
section
/-! THE WORLD'S ROWS: an instruction of the machine over the world -/
section SJR
variable {p : Program} {l : Launch} {e : Env} {R : Room} {s : State} {m : MethodId} {args : Array Value} {below : List Frame} {meth : Method} {c : Code} {H : Heap} {locs : List Loc} {cells slots : Nat} {Q : State → Prop}
variable {cc : ByteArray} {pc : Nat} {ls : Array Slot} {rest : List Value} {G : sj_G} {own : String} {nL : Nat} {w : sj_W}
theorem sj_gf (hC : sj_C G p l s m args c cc own nL) (hH : sj_H G s w H locs) {ci k a index : Nat} {C : String} {T : u_T} {N : Nat} {v : Value} (hc : vwCl[ci]? = some (C, T, N)) (hin : ∀ z ∈ u_ws C T N, z ∈ sj_Big) (hk : k < N) (h6 : ci < 6) (hl : (Cond.fieldLink own index (T k).1 (T k).2.1 (T k).2.2.1) ∈ sj_Big) (hn : k < sj_nf ci) (hv : sj_fv w ci a k = v) (hT : sj_T w a = ci + 1) (hdg : decode cc pc = .ok (.getfield index, 3))
    (kk : W p l e R s m args below meth c H locs cells slots Q (F0 m (pc + 3) ls (v :: rest))) : W p l e R s m args below meth c H locs cells slots Q (F0 m pc ls (.ref a :: rest)) := by
  obtain ⟨hx, hb, -, hown, hts, hK, -⟩ := hC
  obtain ⟨⟨L, hL, hP, hD⟩, -⟩ := hH
  obtain ⟨k0, hk0⟩ := va_pl_get (X := []) (f := sj_e G.2.1 w) ((hL a).mp (by rw [hT]; omega))
  rw [sj_eO hT h6] at hk0
  exact va_get hx hb hts hin hown hK.1 hP k0 hk0 hc k hk (hts _ hl) (fun x h => h) ((sj_fsg hn).trans (congrArg some hv)) hdg kk
theorem sj_gfN (hC : sj_C G p l s m args c cc own nL) (hH : sj_H G s w H locs) {host : String} {ci k a index : Nat} {C : String} {T : u_T} {N : Nat} {v : Value} (hc : vwCl[ci]? = some (C, T, N)) (hin : ∀ z ∈ u_ws C T N, z ∈ sj_Big) (hk : k < N) (h6 : ci < 6) (hl : (Cond.fieldLinkNest own index (T k).1 (T k).2.1 (T k).2.2.1 host) ∈ sj_Nws) (hn : k < sj_nf ci) (hv : sj_fv w ci a k = v) (hT : sj_T w a = ci + 1) (hdg : decode cc pc = .ok (.getfield index, 3))
    (kk : W p l e R s m args below meth c H locs cells slots Q (F0 m (pc + 3) ls (v :: rest))) : W p l e R s m args below meth c H locs cells slots Q (F0 m pc ls (.ref a :: rest)) := by
  obtain ⟨hx, hb, -, hown, hts, hK, -⟩ := hC
  obtain ⟨⟨L, hL, hP, hD⟩, -⟩ := hH
  obtain ⟨k0, hk0⟩ := va_pl_get (X := []) (f := sj_e G.2.1 w) ((hL a).mp (by rw [hT]; omega))
  rw [sj_eO hT h6] at hk0
  exact va_getN hx hb hts hin hown hK.1 hP k0 hk0 hc k hk (sj_Nw_use rfl (hK.2.2.2.2.2.1 _ hl)) (fun x h => h) ((sj_fsg hn).trans (congrArg some hv)) hdg kk
/-- a field's value changed: the fields' list -/
theorem sj_fs_set {w w' : sj_W} {ci a k : Nat} {v : Value} (hk : k < sj_nf ci) (h1 : sj_fv w' ci a k = v) (h2 : ∀ j, j ≠ k → sj_fv w' ci a j = sj_fv w ci a j) : sj_fs w' ci a = (sj_fs w ci a).set k v := by
  apply List.ext_getElem?
  intro j
  by_cases hj : j < sj_nf ci
  · by_cases hjk : j = k
    · subst hjk
      rw [sj_fsg hj, h1, List.getElem?_set_self (by unfold sj_fs; rw [List.length_map, List.length_range]; exact hj)]
    · rw [sj_fsg hj, h2 j hjk, List.getElem?_set_ne (Ne.symm hjk), sj_fsg hj]
  · rw [List.getElem?_eq_none (by unfold sj_fs; rw [List.length_map, List.length_range]; omega), List.getElem?_eq_none (by rw [List.length_set]; unfold sj_fs; rw [List.length_map, List.length_range]; omega)]
theorem sj_e_I {cA : Nat → ClassId} {w : sj_W} {f a b : Nat} {v : Int32} (hb : b ≠ a) : sj_e cA (sj_sI w f a v) b = sj_e cA w b := by
  have h : ∀ c, sj_fs (sj_sI w f a v) c b = sj_fs w c b := fun c => by
    unfold sj_fs
    refine List.map_congr_left fun k _ => ?_
    unfold sj_fv
    rw [sj_rd.1.2.2.1, sj_rd.1.2.2.2.1, if_neg (fun q : 8 * c + k = f ∧ b = a => hb q.2)]
  unfold sj_e
  rw [sj_rd.1.1, sj_rd.1.2.1, h]
  rfl
theorem sj_e_A {cA : Nat → ClassId} {w : sj_W} {f a b v : Nat} (hb : b ≠ a) : sj_e cA (sj_sA w f a v) b = sj_e cA w b := by
  have h : ∀ c, sj_fs (sj_sA w f a v) c b = sj_fs w c b := fun c => by
    unfold sj_fs
    refine List.map_congr_left fun k _ => ?_
    unfold sj_fv
    rw [sj_rd.2.1.2.2.1, sj_rd.2.1.2.2.2.1, if_neg (fun q : 8 * c + k = f ∧ b = a => hb q.2)]
  unfold sj_e
  rw [sj_rd.2.1.1, sj_rd.2.1.2.1, h]
  rfl
theorem sj_pfI (hC : sj_C G p l s m args c cc own nL) (hH : sj_H G s w H locs) {ci k f a index : Nat} {C : String} {T : u_T} {N : Nat} {v : Int32} {ty : FieldType} (ty0 : Nat → FieldType) (hty : ∀ k, k < N → parseFieldDescriptor (T k).2.2.1 = some (ty0 k)) (hnm : ∀ a, a < N → ∀ b, b < N → a ≠ b → (T a).2.1 ≠ (T b).2.1) (hc : vwCl[ci]? = some (C, T, N)) (hin : ∀ z ∈ u_ws C T N, z ∈ sj_Big) (hk : k < N) (h6 : ci < 6) (hl : (Cond.fieldLink own index (T k).1 (T k).2.1 (T k).2.2.1) ∈ sj_Big) (hn : k < sj_nf ci) (hf : f = 8 * ci + k) (hr : sj_rf f = false) (hfin : (T k).2.2.2 = false) (hd : ty0 k = ty) (hnw : narrow ty (.int v) = .int v) (hft : fits ty (.int v) = true) (hT : sj_T w a = ci + 1) (hdg : decode cc pc = .ok (.putfield index, 3))
    (kk : ∀ (H1 : Heap) (locs1 : List Loc), sj_H G s (sj_sI w f a v) H1 locs1 → W p l e R s m args below meth c H1 locs1 cells slots Q (F0 m (pc + 3) ls rest)) : W p l e R s m args below meth c H locs cells slots Q (F0 m pc ls (.int v :: .ref a :: rest)) := by
  obtain ⟨hx, hb, -, hown, hts, hK, -⟩ := hC
  obtain ⟨⟨L, hL, hP, hD⟩, hS⟩ := hH
  have ha := (hL a).mp (by rw [hT]; omega)
  obtain ⟨k0, hk1⟩ := va_pl_get (X := []) (f := sj_e G.2.1 w) ha
  have hk0 := hk1
  rw [sj_eO hT h6] at hk0
  refine va_put hx hb hts hin ty0 hty hnm hown hK.1 hP hD hS k0 hk0 hc k hk (hts _ hl) (fun x h => h) hfin ((hty k hk).trans (congrArg some hd)) hnw hft (by unfold sj_fs; rw [List.length_map, List.length_range]; exact hn) hdg (fun H1 locs1 hP1 hD1 hS1 => kk H1 locs1 ⟨?_, hS1⟩)
  subst hf
  refine sj_M.set (w := w) (k := k0) (a := a) hL hD ha hk1 rfl ?_ (fun b hb => sj_e_I hb) hP1 hD1
  rw [sj_eO (w := sj_sI w (8 * ci + k) a v) hT h6]
  refine congrArg (fun x => Sum.inr (ci, x)) (sj_fs_set hn ?_ (fun j hj => ?_))
  · unfold sj_fv
    rw [hr, if_neg (by decide), sj_rd.1.2.2.1, if_pos ⟨rfl, rfl⟩]
  · unfold sj_fv
    rw [sj_rd.1.2.2.1, sj_rd.1.2.2.2.1, if_neg (fun q : 8 * ci + j = 8 * ci + k ∧ a = a => hj (by omega))]
theorem sj_pfIN (hC : sj_C G p l s m args c cc own nL) (hH : sj_H G s w H locs) {host : String} {ci k f a index : Nat} {C : String} {T : u_T} {N : Nat} {v : Int32} {ty : FieldType} (ty0 : Nat → FieldType) (hty : ∀ k, k < N → parseFieldDescriptor (T k).2.2.1 = some (ty0 k)) (hnm : ∀ a, a < N → ∀ b, b < N → a ≠ b → (T a).2.1 ≠ (T b).2.1) (hc : vwCl[ci]? = some (C, T, N)) (hin : ∀ z ∈ u_ws C T N, z ∈ sj_Big) (hk : k < N) (h6 : ci < 6) (hl : (Cond.fieldLinkNest own index (T k).1 (T k).2.1 (T k).2.2.1 host) ∈ sj_Nws) (hn : k < sj_nf ci) (hf : f = 8 * ci + k) (hr : sj_rf f = false) (hfin : (T k).2.2.2 = false) (hd : ty0 k = ty) (hnw : narrow ty (.int v) = .int v) (hft : fits ty (.int v) = true) (hT : sj_T w a = ci + 1) (hdg : decode cc pc = .ok (.putfield index, 3))
    (kk : ∀ (H1 : Heap) (locs1 : List Loc), sj_H G s (sj_sI w f a v) H1 locs1 → W p l e R s m args below meth c H1 locs1 cells slots Q (F0 m (pc + 3) ls rest)) : W p l e R s m args below meth c H locs cells slots Q (F0 m pc ls (.int v :: .ref a :: rest)) := by
  obtain ⟨hx, hb, -, hown, hts, hK, -⟩ := hC
  obtain ⟨⟨L, hL, hP, hD⟩, hS⟩ := hH
  have ha := (hL a).mp (by rw [hT]; omega)
  obtain ⟨k0, hk1⟩ := va_pl_get (X := []) (f := sj_e G.2.1 w) ha
  have hk0 := hk1
  rw [sj_eO hT h6] at hk0
  refine va_putN hx hb hts hin ty0 hty hnm hown hK.1 hP hD hS k0 hk0 hc k hk (sj_Nw_use rfl (hK.2.2.2.2.2.1 _ hl)) (fun x h => h) hfin ((hty k hk).trans (congrArg some hd)) hnw hft (by unfold sj_fs; rw [List.length_map, List.length_range]; exact hn) hdg (fun H1 locs1 hP1 hD1 hS1 => kk H1 locs1 ⟨?_, hS1⟩)
  subst hf
  refine sj_M.set (w := w) (k := k0) (a := a) hL hD ha hk1 rfl ?_ (fun b hb => sj_e_I hb) hP1 hD1
  rw [sj_eO (w := sj_sI w (8 * ci + k) a v) hT h6]
  refine congrArg (fun x => Sum.inr (ci, x)) (sj_fs_set hn ?_ (fun j hj => ?_))
  · unfold sj_fv
    rw [hr, if_neg (by decide), sj_rd.1.2.2.1, if_pos ⟨rfl, rfl⟩]
  · unfold sj_fv
    rw [sj_rd.1.2.2.1, sj_rd.1.2.2.2.1, if_neg (fun q : 8 * ci + j = 8 * ci + k ∧ a = a => hj (by omega))]
theorem sj_pfIF (hC : sj_C G p l s m args c cc own nL) (hH : sj_H G s w H locs) {ci k f a index : Nat} {C : String} {T : u_T} {N : Nat} {v : Int32} {ty : FieldType} (ty0 : Nat → FieldType) (hty : ∀ k, k < N → parseFieldDescriptor (T k).2.2.1 = some (ty0 k)) (hnm : ∀ a, a < N → ∀ b, b < N → a ≠ b → (T a).2.1 ≠ (T b).2.1) (hc : vwCl[ci]? = some (C, T, N)) (hin : ∀ z ∈ u_ws C T N, z ∈ sj_Big) (hk : k < N) (h6 : ci < 6) (hl : (Cond.fieldLink own index (T k).1 (T k).2.1 (T k).2.2.1) ∈ sj_Big) (hn : k < sj_nf ci) (hf : f = 8 * ci + k) (hr : sj_rf f = false) (hfin : (T k).2.2.2 = true) (hin2 : meth.name = "<init>") (hdecl : (T k).1 = own) (hd : ty0 k = ty) (hnw : narrow ty (.int v) = .int v) (hft : fits ty (.int v) = true) (hT : sj_T w a = ci + 1) (hdg : decode cc pc = .ok (.putfield index, 3))
    (kk : ∀ (H1 : Heap) (locs1 : List Loc), sj_H G s (sj_sI w f a v) H1 locs1 → W p l e R s m args below meth c H1 locs1 cells slots Q (F0 m (pc + 3) ls rest)) : W p l e R s m args below meth c H locs cells slots Q (F0 m pc ls (.int v :: .ref a :: rest)) := by
  obtain ⟨hx, hb, -, hown, hts, hK, -⟩ := hC
  obtain ⟨⟨L, hL, hP, hD⟩, hS⟩ := hH
  have ha := (hL a).mp (by rw [hT]; omega)
  obtain ⟨k0, hk1⟩ := va_pl_get (X := []) (f := sj_e G.2.1 w) ha
  have hk0 := hk1
  rw [sj_eO hT h6] at hk0
  refine va_putF hx hb hts hin ty0 hty hnm hown hK.1 hP hD hS k0 hk0 hc k hk (hts _ hl) (fun x h => h) hfin hin2 hdecl ((hty k hk).trans (congrArg some hd)) hnw hft (by unfold sj_fs; rw [List.length_map, List.length_range]; exact hn) hdg (fun H1 locs1 hP1 hD1 hS1 => kk H1 locs1 ⟨?_, hS1⟩)
  subst hf
  refine sj_M.set (w := w) (k := k0) (a := a) hL hD ha hk1 rfl ?_ (fun b hb => sj_e_I hb) hP1 hD1
  rw [sj_eO (w := sj_sI w (8 * ci + k) a v) hT h6]
  refine congrArg (fun x => Sum.inr (ci, x)) (sj_fs_set hn ?_ (fun j hj => ?_))
  · unfold sj_fv
    rw [hr, if_neg (by decide), sj_rd.1.2.2.1, if_pos ⟨rfl, rfl⟩]
  · unfold sj_fv
    rw [sj_rd.1.2.2.1, sj_rd.1.2.2.2.1, if_neg (fun q : 8 * ci + j = 8 * ci + k ∧ a = a => hj (by omega))]
theorem sj_rfn {ty : FieldType} (h : ty.isReference = true) (a : Nat) : narrow ty (.ref a) = .ref a ∧ fits ty (.ref a) = true := by
  cases ty <;> first | exact ⟨rfl, rfl⟩ | cases h
theorem sj_pfA (hC : sj_C G p l s m args c cc own nL) (hH : sj_H G s w H locs) {ci k f a index v : Nat} {C : String} {T : u_T} {N : Nat} {ty : FieldType} (ty0 : Nat → FieldType) (hty : ∀ k, k < N → parseFieldDescriptor (T k).2.2.1 = some (ty0 k)) (hnm : ∀ a, a < N → ∀ b, b < N → a ≠ b → (T a).2.1 ≠ (T b).2.1) (hc : vwCl[ci]? = some (C, T, N)) (hin : ∀ z ∈ u_ws C T N, z ∈ sj_Big) (hk : k < N) (h6 : ci < 6) (hl : (Cond.fieldLink own index (T k).1 (T k).2.1 (T k).2.2.1) ∈ sj_Big) (hn : k < sj_nf ci) (hf : f = 8 * ci + k) (hr : sj_rf f = true) (hfin : (T k).2.2.2 = false) (hd : ty0 k = ty) (hrf : ty.isReference = true) (hT : sj_T w a = ci + 1) (hv : v ≠ 0) (hdg : decode cc pc = .ok (.putfield index, 3))
    (kk : ∀ (H1 : Heap) (locs1 : List Loc), sj_H G s (sj_sA w f a v) H1 locs1 → W p l e R s m args below meth c H1 locs1 cells slots Q (F0 m (pc + 3) ls rest)) : W p l e R s m args below meth c H locs cells slots Q (F0 m pc ls (.ref v :: .ref a :: rest)) := by
  obtain ⟨hx, hb, -, hown, hts, hK, -⟩ := hC
  obtain ⟨⟨L, hL, hP, hD⟩, hS⟩ := hH
  have ha := (hL a).mp (by rw [hT]; omega)
  obtain ⟨k0, hk1⟩ := va_pl_get (X := []) (f := sj_e G.2.1 w) ha
  have hk0 := hk1
  rw [sj_eO hT h6] at hk0
  refine va_put hx hb hts hin ty0 hty hnm hown hK.1 hP hD hS k0 hk0 hc k hk (hts _ hl) (fun x h => h) hfin ((hty k hk).trans (congrArg some hd)) (sj_rfn hrf v).1 (sj_rfn hrf v).2 (by unfold sj_fs; rw [List.length_map, List.length_range]; exact hn) hdg (fun H1 locs1 hP1 hD1 hS1 => kk H1 locs1 ⟨?_, hS1⟩)
  subst hf
  refine sj_M.set (w := w) (k := k0) (a := a) hL hD ha hk1 rfl ?_ (fun b hb => sj_e_A hb) hP1 hD1
  rw [sj_eO (w := sj_sA w (8 * ci + k) a v) hT h6]
  refine congrArg (fun x => Sum.inr (ci, x)) (sj_fs_set hn ?_ (fun j hj => ?_))
  · have h9 : sj_A (sj_sA w (8 * ci + k) a v) (8 * ci + k) a = v := by rw [sj_rd.2.1.2.2.1]; exact if_pos ⟨rfl, rfl⟩
    rw [sj_fvA hr rfl (by rw [h9]; exact hv), h9]
  · unfold sj_fv
    rw [sj_rd.2.1.2.2.1, sj_rd.2.1.2.2.2.1, if_neg (fun q : 8 * ci + j = 8 * ci + k ∧ a = a => hj (by omega))]
theorem sj_pfAF (hC : sj_C G p l s m args c cc own nL) (hH : sj_H G s w H locs) {ci k f a index v : Nat} {C : String} {T : u_T} {N : Nat} {ty : FieldType} (ty0 : Nat → FieldType) (hty : ∀ k, k < N → parseFieldDescriptor (T k).2.2.1 = some (ty0 k)) (hnm : ∀ a, a < N → ∀ b, b < N → a ≠ b → (T a).2.1 ≠ (T b).2.1) (hc : vwCl[ci]? = some (C, T, N)) (hin : ∀ z ∈ u_ws C T N, z ∈ sj_Big) (hk : k < N) (h6 : ci < 6) (hl : (Cond.fieldLink own index (T k).1 (T k).2.1 (T k).2.2.1) ∈ sj_Big) (hn : k < sj_nf ci) (hf : f = 8 * ci + k) (hr : sj_rf f = true) (hfin : (T k).2.2.2 = true) (hin2 : meth.name = "<init>") (hdecl : (T k).1 = own) (hd : ty0 k = ty) (hrf : ty.isReference = true) (hT : sj_T w a = ci + 1) (hv : v ≠ 0) (hdg : decode cc pc = .ok (.putfield index, 3))
    (kk : ∀ (H1 : Heap) (locs1 : List Loc), sj_H G s (sj_sA w f a v) H1 locs1 → W p l e R s m args below meth c H1 locs1 cells slots Q (F0 m (pc + 3) ls rest)) : W p l e R s m args below meth c H locs cells slots Q (F0 m pc ls (.ref v :: .ref a :: rest)) := by
  obtain ⟨hx, hb, -, hown, hts, hK, -⟩ := hC
  obtain ⟨⟨L, hL, hP, hD⟩, hS⟩ := hH
  have ha := (hL a).mp (by rw [hT]; omega)
  obtain ⟨k0, hk1⟩ := va_pl_get (X := []) (f := sj_e G.2.1 w) ha
  have hk0 := hk1
  rw [sj_eO hT h6] at hk0
  refine va_putF hx hb hts hin ty0 hty hnm hown hK.1 hP hD hS k0 hk0 hc k hk (hts _ hl) (fun x h => h) hfin hin2 hdecl ((hty k hk).trans (congrArg some hd)) (sj_rfn hrf v).1 (sj_rfn hrf v).2 (by unfold sj_fs; rw [List.length_map, List.length_range]; exact hn) hdg (fun H1 locs1 hP1 hD1 hS1 => kk H1 locs1 ⟨?_, hS1⟩)
  subst hf
  refine sj_M.set (w := w) (k := k0) (a := a) hL hD ha hk1 rfl ?_ (fun b hb => sj_e_A hb) hP1 hD1
  rw [sj_eO (w := sj_sA w (8 * ci + k) a v) hT h6]
  refine congrArg (fun x => Sum.inr (ci, x)) (sj_fs_set hn ?_ (fun j hj => ?_))
  · have h9 : sj_A (sj_sA w (8 * ci + k) a v) (8 * ci + k) a = v := by rw [sj_rd.2.1.2.2.1]; exact if_pos ⟨rfl, rfl⟩
    rw [sj_fvA hr rfl (by rw [h9]; exact hv), h9]
  · unfold sj_fv
    rw [sj_rd.2.1.2.2.1, sj_rd.2.1.2.2.2.1, if_neg (fun q : 8 * ci + j = 8 * ci + k ∧ a = a => hj (by omega))]
/-! arrays -/
theorem sj_iald (hC : sj_C G p l s m args c cc own nL) (hH : sj_H G s w H locs) {a : Nat} {i : Int32} (hT : sj_T w a = 7) (hi : vp_in i (sj_N w a)) (hdg : decode cc pc = .ok (.iaload, 1))
    (kk : W p l e R s m args below meth c H locs cells slots Q (F0 m (pc + 1) ls (.int (sj_i w a i.toNatClampNeg) :: rest))) : W p l e R s m args below meth c H locs cells slots Q (F0 m pc ls (.int i :: .ref a :: rest)) := by
  obtain ⟨hx, hb, -, hown, hts, hK, -⟩ := hC
  obtain ⟨⟨L, hL, hP, hD⟩, -⟩ := hH
  obtain ⟨k0, hk0⟩ := va_pl_get (X := []) (f := sj_e G.2.1 w) ((hL a).mp (by rw [hT]; omega))
  rw [sj_eA (t := 0) hT] at hk0
  exact va_iald hx hb hK.1 hP k0 0 hk0 rfl hi hdg kk
theorem sj_lald (hC : sj_C G p l s m args c cc own nL) (hH : sj_H G s w H locs) {a : Nat} {i : Int32} (hT : sj_T w a = 8) (hi : vp_in i (sj_N w a)) (hdg : decode cc pc = .ok (.laload, 1))
    (kk : W p l e R s m args below meth c H locs cells slots Q (F0 m (pc + 1) ls (.long (sj_l w a i.toNatClampNeg) :: rest))) : W p l e R s m args below meth c H locs cells slots Q (F0 m pc ls (.int i :: .ref a :: rest)) := by
  obtain ⟨hx, hb, -, hown, hts, hK, -⟩ := hC
  obtain ⟨⟨L, hL, hP, hD⟩, -⟩ := hH
  obtain ⟨k0, hk0⟩ := va_pl_get (X := []) (f := sj_e G.2.1 w) ((hL a).mp (by rw [hT]; omega))
  rw [sj_eA (t := 1) hT] at hk0
  exact va_lald hx hb hK.1 hP k0 1 hk0 rfl hi hdg kk
theorem sj_dald (hC : sj_C G p l s m args c cc own nL) (hH : sj_H G s w H locs) {a : Nat} {i : Int32} (hT : sj_T w a = 9) (hi : vp_in i (sj_N w a)) (hdg : decode cc pc = .ok (.daload, 1))
    (kk : W p l e R s m args below meth c H locs cells slots Q (F0 m (pc + 1) ls (.double (sj_d w a i.toNatClampNeg) :: rest))) : W p l e R s m args below meth c H locs cells slots Q (F0 m pc ls (.int i :: .ref a :: rest)) := by
  obtain ⟨hx, hb, -, hown, hts, hK, -⟩ := hC
  obtain ⟨⟨L, hL, hP, hD⟩, -⟩ := hH
  obtain ⟨k0, hk0⟩ := va_pl_get (X := []) (f := sj_e G.2.1 w) ((hL a).mp (by rw [hT]; omega))
  rw [sj_eA (t := 2) hT] at hk0
  exact va_dald hx hb hK.1 hP k0 2 hk0 rfl hi hdg kk
theorem sj_o_ref {n : Nat} (h : n ≠ 0) : va_rf (sj_o n) = .ref n := by
  unfold sj_o
  rw [if_neg h]
  rfl
theorem sj_aald (hC : sj_C G p l s m args c cc own nL) (hH : sj_H G s w H locs) {a : Nat} {i : Int32} (hT : sj_T w a = 10 ∨ sj_T w a = 11 ∨ sj_T w a = 12) (hi : vp_in i (sj_N w a)) (hn : sj_r w a i.toNatClampNeg ≠ 0) (hdg : decode cc pc = .ok (.aaload, 1))
    (kk : W p l e R s m args below meth c H locs cells slots Q (F0 m (pc + 1) ls (.ref (sj_r w a i.toNatClampNeg) :: rest))) : W p l e R s m args below meth c H locs cells slots Q (F0 m pc ls (.int i :: .ref a :: rest)) := by
  obtain ⟨hx, hb, -, hown, hts, hK, -⟩ := hC
  obtain ⟨⟨L, hL, hP, hD⟩, -⟩ := hH
  obtain ⟨k0, hk0⟩ := va_pl_get (X := []) (f := sj_e G.2.1 w) ((hL a).mp (by omega))
  rw [← sj_o_ref hn] at kk
  rcases hT with hT | hT | hT
  · rw [sj_eA (t := 3) hT] at hk0
    exact va_aldq hx hb hK.1 hP k0 3 hk0 rfl hi hdg kk
  · rw [sj_eA (t := 4) hT] at hk0
    exact va_aldq hx hb hK.1 hP k0 4 hk0 rfl hi hdg kk
  · rw [sj_eA (t := 5) hT] at hk0
    exact va_aldq hx hb hK.1 hP k0 5 hk0 rfl hi hdg kk
theorem sj_aaldI (hC : sj_C G p l s m args c cc own nL) (hH : sj_H G s w H locs) {a : Nat} {i : Int32} (hT : sj_T w a = 13) (hi : vp_in i (sj_N w a)) (hn : sj_r w a i.toNatClampNeg ≠ 0) (hdg : decode cc pc = .ok (.aaload, 1))
    (kk : W p l e R s m args below meth c H locs cells slots Q (F0 m (pc + 1) ls (.ref (sj_r w a i.toNatClampNeg) :: rest))) : W p l e R s m args below meth c H locs cells slots Q (F0 m pc ls (.int i :: .ref a :: rest)) := by
  obtain ⟨hx, hb, -, hown, hts, hK, -⟩ := hC
  obtain ⟨⟨L, hL, hP, hD⟩, -⟩ := hH
  obtain ⟨k0, hk0⟩ := va_pl_get (X := []) (f := sj_e G.2.1 w) ((hL a).mp (by omega))
  rw [← sj_o_ref hn] at kk
  rw [sj_eA (t := 6) hT] at hk0
  have hlt : i.toNatClampNeg < sj_N w a := Nat.not_le.mp fun q => hi (Or.inr q)
  have hcell := hP k0 _ hk0
  have hof := (hK.1.2 6 (G.2.1 6, .array .int) rfl).1
  have hcell : H[a]? = some (arrV (G.2.1 6) (sj_N w a) (fun j => va_rf (sj_o (sj_r w a j)))) := hcell
  exact W.aald (v := va_rf (sj_o (sj_r w a i.toNatClampNeg))) (ty := .array .int) hx hb hcell (hof _ _) rfl (fun q => by cases q) (by rw [arrV_size]; exact hi) (by rw [arrV_read _ _ hlt]) rfl rfl hdg kk
theorem sj_alen (hC : sj_C G p l s m args c cc own nL) (hH : sj_H G s w H locs) {a : Nat} (hT : 7 ≤ sj_T w a ∧ sj_T w a ≤ 13) (hdg : decode cc pc = .ok (.arraylength, 1))
    (kk : W p l e R s m args below meth c H locs cells slots Q (F0 m (pc + 1) ls (.int (nI (sj_N w a)) :: rest))) : W p l e R s m args below meth c H locs cells slots Q (F0 m pc ls (.ref a :: rest)) := by
  obtain ⟨hx, hb, -, hown, hts, hK, -⟩ := hC
  obtain ⟨⟨L, hL, hP, hD⟩, -⟩ := hH
  obtain ⟨k0, hk0⟩ := va_pl_get (X := []) (f := sj_e G.2.1 w) ((hL a).mp (by omega))
  obtain ⟨t, ht, ht7⟩ : ∃ t, sj_T w a = t + 7 ∧ t < 7 := ⟨sj_T w a - 7, by omega, by omega⟩
  rw [sj_eA ht] at hk0
  match t, ht7, hk0 with
  | 0, _, hk0 => exact va_alen hx hb hK.1 hP k0 0 hk0 (ty := .int) rfl rfl hdg kk
  | 1, _, hk0 => exact va_alen hx hb hK.1 hP k0 1 hk0 (ty := .long) rfl rfl hdg kk
  | 2, _, hk0 => exact va_alen hx hb hK.1 hP k0 2 hk0 (ty := .double) rfl rfl hdg kk
  | 3, _, hk0 => exact va_alen hx hb hK.1 hP k0 3 hk0 (ty := .object RX1) rfl rfl hdg kk
  | 4, _, hk0 => exact va_alen hx hb hK.1 hP k0 4 hk0 (ty := .object RX3) rfl rfl hdg kk
  | 5, _, hk0 => exact va_alen hx hb hK.1 hP k0 5 hk0 (ty := .object RX4) rfl rfl hdg kk
  | 6, _, hk0 => exact va_alen hx hb hK.1 hP k0 6 hk0 (ty := .array .int) rfl rfl hdg kk
theorem sj_iast (hC : sj_C G p l s m args c cc own nL) (hH : sj_H G s w H locs) {a : Nat} {i v : Int32} (hT : sj_T w a = 7) (hi : vp_in i (sj_N w a)) (hdg : decode cc pc = .ok (.iastore, 1))
    (kk : ∀ (w1 : sj_W) (H1 : Heap) (locs1 : List Loc), w1 = sj_si w a i.toNatClampNeg v → sj_H G s w1 H1 locs1 → W p l e R s m args below meth c H1 locs1 cells slots Q (F0 m (pc + 1) ls rest)) : W p l e R s m args below meth c H locs cells slots Q (F0 m pc ls (.int v :: .int i :: .ref a :: rest)) := by
  obtain ⟨hx, hb, -, hown, hts, hK, -⟩ := hC
  obtain ⟨⟨L, hL, hP, hD⟩, hS⟩ := hH
  have ha := (hL a).mp (by rw [hT]; omega)
  obtain ⟨k0, hk1⟩ := va_pl_get (X := []) (f := sj_e G.2.1 w) ha
  have hk0 := hk1
  rw [sj_eA (t := 0) hT] at hk0
  refine va_iast hx hb hK.1 hP hD hS k0 0 hk0 rfl hi hdg (fun H1 locs1 hP1 hD1 hS1 => kk _ H1 locs1 rfl ⟨?_, hS1⟩)
  refine sj_M.set (w := w) (k := k0) (a := a) hL hD ha hk1 rfl ?_ (fun b hb => ?_) hP1 hD1
  · rw [sj_eA (w := sj_si w a i.toNatClampNeg v) (t := 0) hT]
    have h2 : sj_i (sj_si w a i.toNatClampNeg v) a = upd (sj_i w a) i.toNatClampNeg v := by
      funext j
      show sj_u (sj_i w) a i.toNatClampNeg v a j = upd (sj_i w a) i.toNatClampNeg v j
      simp [sj_u, upd]
    show Sum.inl (G.2.1 0, sj_N w a, Sum.inl (sj_i (sj_si w a i.toNatClampNeg v) a)) = _
    rw [h2]
  · have h2 : sj_i (sj_si w a i.toNatClampNeg v) b = sj_i w b := by
      funext j
      show sj_u (sj_i w) a i.toNatClampNeg v b j = _
      simp [sj_u, hb]
    unfold sj_e sj_pl
    rw [h2]
    rfl
theorem sj_last (hC : sj_C G p l s m args c cc own nL) (hH : sj_H G s w H locs) {a : Nat} {i : Int32} {v : Int64} (hT : sj_T w a = 8) (hi : vp_in i (sj_N w a)) (hdg : decode cc pc = .ok (.lastore, 1))
    (kk : ∀ (w1 : sj_W) (H1 : Heap) (locs1 : List Loc), w1 = sj_sl w a i.toNatClampNeg v → sj_H G s w1 H1 locs1 → W p l e R s m args below meth c H1 locs1 cells slots Q (F0 m (pc + 1) ls rest)) : W p l e R s m args below meth c H locs cells slots Q (F0 m pc ls (.long v :: .int i :: .ref a :: rest)) := by
  obtain ⟨hx, hb, -, hown, hts, hK, -⟩ := hC
  obtain ⟨⟨L, hL, hP, hD⟩, hS⟩ := hH
  have ha := (hL a).mp (by rw [hT]; omega)
  obtain ⟨k0, hk1⟩ := va_pl_get (X := []) (f := sj_e G.2.1 w) ha
  have hk0 := hk1
  rw [sj_eA (t := 1) hT] at hk0
  refine va_last hx hb hK.1 hP hD hS k0 1 hk0 rfl hi hdg (fun H1 locs1 hP1 hD1 hS1 => kk _ H1 locs1 rfl ⟨?_, hS1⟩)
  refine sj_M.set (w := w) (k := k0) (a := a) hL hD ha hk1 rfl ?_ (fun b hb => ?_) hP1 hD1
  · rw [sj_eA (w := sj_sl w a i.toNatClampNeg v) (t := 1) hT]
    have h2 : sj_l (sj_sl w a i.toNatClampNeg v) a = vp_updL (sj_l w a) i.toNatClampNeg v := by
      funext j
      show sj_u (sj_l w) a i.toNatClampNeg v a j = vp_updL (sj_l w a) i.toNatClampNeg v j
      simp [sj_u, vp_updL]
    show Sum.inl (G.2.1 1, sj_N w a, Sum.inr (Sum.inl (sj_l (sj_sl w a i.toNatClampNeg v) a))) = _
    rw [h2]
  · have h2 : sj_l (sj_sl w a i.toNatClampNeg v) b = sj_l w b := by
      funext j
      show sj_u (sj_l w) a i.toNatClampNeg v b j = _
      simp [sj_u, hb]
    unfold sj_e sj_pl
    rw [h2]
    rfl
theorem sj_dast (hC : sj_C G p l s m args c cc own nL) (hH : sj_H G s w H locs) {a : Nat} {i : Int32} {v : UInt64} (hT : sj_T w a = 9) (hi : vp_in i (sj_N w a)) (hdg : decode cc pc = .ok (.dastore, 1))
    (kk : ∀ (w1 : sj_W) (H1 : Heap) (locs1 : List Loc), w1 = sj_sd w a i.toNatClampNeg v → sj_H G s w1 H1 locs1 → W p l e R s m args below meth c H1 locs1 cells slots Q (F0 m (pc + 1) ls rest)) : W p l e R s m args below meth c H locs cells slots Q (F0 m pc ls (.double v :: .int i :: .ref a :: rest)) := by
  obtain ⟨hx, hb, -, hown, hts, hK, -⟩ := hC
  obtain ⟨⟨L, hL, hP, hD⟩, hS⟩ := hH
  have ha := (hL a).mp (by rw [hT]; omega)
  obtain ⟨k0, hk1⟩ := va_pl_get (X := []) (f := sj_e G.2.1 w) ha
  have hk0 := hk1
  rw [sj_eA (t := 2) hT] at hk0
  refine va_dast hx hb hK.1 hP hD hS k0 2 hk0 rfl hi hdg (fun H1 locs1 hP1 hD1 hS1 => kk _ H1 locs1 rfl ⟨?_, hS1⟩)
  refine sj_M.set (w := w) (k := k0) (a := a) hL hD ha hk1 rfl ?_ (fun b hb => ?_) hP1 hD1
  · rw [sj_eA (w := sj_sd w a i.toNatClampNeg v) (t := 2) hT]
    have h2 : sj_d (sj_sd w a i.toNatClampNeg v) a = vf_upd (sj_d w a) i.toNatClampNeg v := by
      funext j
      show sj_u (sj_d w) a i.toNatClampNeg v a j = vf_upd (sj_d w a) i.toNatClampNeg v j
      simp [sj_u, vf_upd]
    show Sum.inl (G.2.1 2, sj_N w a, Sum.inr (Sum.inr (Sum.inr (Sum.inl (sj_d (sj_sd w a i.toNatClampNeg v) a))))) = _
    rw [h2]
  · have h2 : sj_d (sj_sd w a i.toNatClampNeg v) b = sj_d w b := by
      funext j
      show sj_u (sj_d w) a i.toNatClampNeg v b j = _
      simp [sj_u, hb]
    unfold sj_e sj_pl
    rw [h2]
    rfl
theorem sj_aast {t ci : Nat} {r : vw_C} (hC : sj_C G p l s m args c cc own nL) (hH : sj_H G s w H locs) {a v : Nat} {i : Int32} (hT : sj_T w a = t + 7) (h3 : 3 ≤ t) (hty : (sj_tys G.2.1)[t]? = some (G.2.1 t, .object r.1)) (hci : ci < 6) (hc : vwCl[ci]? = some r) (hV : sj_T w v = ci + 1) (hi : vp_in i (sj_N w a)) (hv : v ≠ 0) (hdg : decode cc pc = .ok (.aastore, 1))
    (kk : ∀ (w1 : sj_W) (H1 : Heap) (locs1 : List Loc), w1 = sj_sr w a i.toNatClampNeg v → sj_H G s w1 H1 locs1 → W p l e R s m args below meth c H1 locs1 cells slots Q (F0 m (pc + 1) ls rest)) : W p l e R s m args below meth c H locs cells slots Q (F0 m pc ls (.ref v :: .int i :: .ref a :: rest)) := by
  obtain ⟨hx, hb, -, hown, hts, hK, -⟩ := hC
  obtain ⟨⟨L, hL, hP, hD⟩, hS⟩ := hH
  have ha := (hL a).mp (by rw [hT]; omega)
  have hv2 := (hL v).mp (by rw [hV]; omega)
  obtain ⟨k0, hk1⟩ := va_pl_get (X := []) (f := sj_e G.2.1 w) ha
  obtain ⟨kv, hkv⟩ := va_pl_get (X := []) (f := sj_e G.2.1 w) hv2
  have hk0 := hk1
  have hpl : sj_pl (t + 7) w a = .inr (.inr (.inr (.inr (fun j => sj_o (sj_r w a j))))) := by
    unfold sj_pl
    rw [if_neg (by omega), if_neg (by omega), if_neg (by omega)]
  rw [sj_eA hT, hpl] at hk0
  rw [sj_eO hV hci] at hkv
  refine va_astq hx hb hK.1 hP hD hS k0 t kv ci (r := r) hk0 hty hkv hc hi hdg (fun H1 locs1 hP1 hD1 hS1 => kk _ H1 locs1 rfl ⟨?_, hS1⟩)
  refine sj_M.set (w := w) (k := k0) (a := a) hL hD ha hk1 rfl ?_ (fun b hb => ?_) hP1 hD1
  · have hpl2 : sj_pl (t + 7) (sj_sr w a i.toNatClampNeg v) a = .inr (.inr (.inr (.inr (fun j => sj_o (sj_r (sj_sr w a i.toNatClampNeg v) a j))))) := by
      unfold sj_pl
      rw [if_neg (by omega), if_neg (by omega), if_neg (by omega)]
    rw [sj_eA (w := sj_sr w a i.toNatClampNeg v) (t := t) hT, hpl2]
    have h2 : (fun j => sj_o (sj_r (sj_sr w a i.toNatClampNeg v) a j)) = va_up (fun j => sj_o (sj_r w a j)) i.toNatClampNeg (some v) := by
      funext j
      show sj_o (sj_u (sj_r w) a i.toNatClampNeg v a j) = va_up (fun j => sj_o (sj_r w a j)) i.toNatClampNeg (some v) j
      by_cases hj : j = i.toNatClampNeg
      · simp [sj_u, va_up, hj, sj_o, hv]
      · simp [sj_u, va_up, hj]
    rw [h2]
    rfl
  · have h2 : sj_r (sj_sr w a i.toNatClampNeg v) b = sj_r w b := by
      funext j
      show sj_u (sj_r w) a i.toNatClampNeg v b j = _
      simp [sj_u, hb]
    unfold sj_e sj_pl
    rw [h2]
    rfl
end SJR
end
section
/-! CONTRACTS OVER THE WORLD, and calls by them -/
def sj_P (G : sj_G) (w : sj_W) : State → Prop := fun U => sj_M G w U.heap ∧ sj_K G U
theorem sj_blind {G : sj_G} {w : sj_W} {As : List Value} : FrameBlind (va_Pc As (sj_P G w)) := fun _ _ _ _ h => ⟨h.1, h.2.1, h.2.2.blind⟩
def sj_B (G : sj_G) : sj_W → State → Prop := fun u t => sj_M G u t.heap
def sj_BX (G : sj_G) (QX : String → sj_W → Prop) : String → sj_W → State → Prop := fun E u t => QX E u ∧ sj_M G u t.heap
def sj_XC (G : sj_G) (QX : String → sj_W → Prop) : String → State → State → Prop := vx_X (fun _ : sj_W => True) (sj_BX G QX) (sj_F G)
def sj_ws (y : MethodName) (bytes : ByteArray) (maxL : Nat) (ret : Option FieldType) : List Cond := .code y bytes maxL ret :: sj_Big
def sj_wsW (y : MethodName) (bytes : ByteArray) (maxL : Nat) (ret : Option FieldType) (hh : List (Nat × Nat × Nat × Nat)) : List Cond := .codeWith y bytes maxL ret hh :: sj_Big
def sj_QR (Q : Nat → sj_W → Prop) : Option Nat → sj_W → Prop := fun r u => ∃ a, r = some a ∧ Q a u
abbrev sj_MI (G : sj_G) (l : Launch) (y : MethodName) (ws : List Cond) (rm : Room) (As : List Value) (w : sj_W) (Q : Int32 → sj_W → Prop) (QX : String → sj_W → Prop) : Prop := vx_Met l y ws rm (va_Pc As (sj_P G w)) (va_Qi Q (sj_B G) (sj_F G)) (sj_XC G QX) rm.cells rm.slots (sj_F G)
abbrev sj_ML (G : sj_G) (l : Launch) (y : MethodName) (ws : List Cond) (rm : Room) (As : List Value) (w : sj_W) (Q : Int64 → sj_W → Prop) (QX : String → sj_W → Prop) : Prop := vx_Met l y ws rm (va_Pc As (sj_P G w)) (va_Ql Q (sj_B G) (sj_F G)) (sj_XC G QX) rm.cells rm.slots (sj_F G)
abbrev sj_MF (G : sj_G) (l : Launch) (y : MethodName) (ws : List Cond) (rm : Room) (As : List Value) (w : sj_W) (Q : UInt32 → sj_W → Prop) (QX : String → sj_W → Prop) : Prop := vx_Met l y ws rm (va_Pc As (sj_P G w)) (va_Qf Q (sj_B G) (sj_F G)) (sj_XC G QX) rm.cells rm.slots (sj_F G)
abbrev sj_MD (G : sj_G) (l : Launch) (y : MethodName) (ws : List Cond) (rm : Room) (As : List Value) (w : sj_W) (Q : UInt64 → sj_W → Prop) (QX : String → sj_W → Prop) : Prop := vx_Met l y ws rm (va_Pc As (sj_P G w)) (va_Qd Q (sj_B G) (sj_F G)) (sj_XC G QX) rm.cells rm.slots (sj_F G)
abbrev sj_MV (G : sj_G) (l : Launch) (y : MethodName) (ws : List Cond) (rm : Room) (As : List Value) (w : sj_W) (Q : sj_W → Prop) (QX : String → sj_W → Prop) : Prop := vx_Met l y ws rm (va_Pc As (sj_P G w)) (va_Qv Q (sj_B G) (sj_F G)) (sj_XC G QX) rm.cells rm.slots (sj_F G)
abbrev sj_MR (G : sj_G) (l : Launch) (y : MethodName) (ws : List Cond) (rm : Room) (As : List Value) (w : sj_W) (Q : Nat → sj_W → Prop) (QX : String → sj_W → Prop) : Prop := vx_Met l y ws rm (va_Pc As (sj_P G w)) (va_Qq (sj_QR Q) (sj_B G) (sj_F G)) (sj_XC G QX) rm.cells rm.slots (sj_F G)
def sj_MQ (G : sj_G) (below : List Frame) (Qc : Array Value → State → Outcome → State → Prop) (QX : String → sj_W → Prop) (args : Array Value) (s : State) (rm : Room) : State → Prop := vx_MQ below Qc (sj_XC G QX) args s rm.cells rm.slots (sj_F G)
/-- a body without handlers -/
def sj_D (meth : Method) (c : Code) : Prop := (∀ x ∈ c.exceptionTable.toList, False) ∧ meth.locks = false
section SJC
variable {p : Program} {l : Launch} {e : Env} {R : Room} {s : State} {m : MethodId} {args : Array Value} {below : List Frame} {meth : Method} {c : Code} {H : Heap} {locs : List Loc} {cells slots : Nat} {Q : State → Prop}
variable {cc : ByteArray} {pc : Nat} {ls : Array Slot} {rest : List Value} {G : sj_G} {own : String} {nL : Nat} {w : sj_W}
variable {y : MethodName} {bytes : ByteArray} {maxL n index : Nat} {ret : Option FieldType} {rm : Room} {Qc : Array Value → State → Outcome → State → Prop} {QX : String → sj_W → Prop} {As : List Value} {b : Nat}
theorem sj_pre (hC : sj_C G p l s m args c cc own nL) (hH : sj_H G s w H locs) : PreS s H (va_Pc As (sj_P G w)) As := ⟨sj_blind, fun U hU hW => ⟨rfl, by rw [hU]; exact hH.1, sj_K.go hC.2.2.2.2.2.1 hH.2 hU hW⟩⟩
theorem sj_recv (hC : sj_C G p l s m args c cc own nL) (hH : sj_H G s w H locs) {ci : Nat} {C : String} {T : u_T} {N : Nat} (hc : vwCl[ci]? = some (C, T, N)) (h6 : ci < 6) (hT : sj_T w b = ci + 1) : ∃ cellB : Cell, H[b]? = some cellB ∧ cellB.vm.isStatics = false ∧ s.vm.findClass C = some cellB.cls := by
  obtain ⟨⟨L, hL, hP, hD⟩, -⟩ := hH
  obtain ⟨k0, hk0⟩ := va_pl_get (X := []) (f := sj_e G.2.1 w) ((hL b).mp (by rw [hT]; omega))
  rw [sj_eO hT h6] at hk0
  exact va_recv hC.2.2.2.2.2.1.1 hP hc hk0
theorem sj_runV (hC : sj_C G p l s m args c cc own nL) (hH : sj_H G s w H locs) (hM : vx_Met l y (sj_ws y bytes maxL ret) rm (va_Pc (.ref b :: As) (sj_P G w)) Qc (sj_XC G QX) rm.cells rm.slots (sj_F G)) {ci : Nat} {T : u_T} {N : Nat} (hc : vwCl[ci]? = some (y.cls, T, N)) (h6 : ci < 6) (hT : sj_T w b = ci + 1)
    (hli : Cond.methodLink own index y ∈ sj_Big) (hin : Cond.instanceMethod y ∈ sj_Big) (hse : Cond.selects y.cls y y ∈ sj_Big) (hini : Cond.initialized y.cls ∈ sj_Big) (hco : Cond.code y bytes maxL ret ∈ sj_Big) (hd : y.cls ≠ "java/lang/invoke/MethodHandle" ∧ y.cls ≠ "java/lang/invoke/VarHandle" ∧ (parseMethodDescriptor y.desc).map (fun d => d.parameters.length) = some n)
    (hR : rm.frames + 1 ≤ R.frames ∧ 8 + (maxL + 11) + rm.locals ≤ R.locals) (hf : cells + rm.cells ≤ R.cells ∧ slots + rm.slots ≤ R.slots) (hn : As.length = n) (hl : ls.size = nL) (hW : (rest.map fun v => v.category).sum ≤ 8) (hdg : decode cc pc = .ok (.invokevirtual index, 3)) :
    vx_Run p l e R s m args below meth c H locs cells slots rm.cells rm.slots (F0 m pc ls (As.reverse ++ .ref b :: rest)) rest (Qc (Value.ref b :: As).toArray) (sj_XC G QX) (sj_F G) :=
  vx_runV (n := n) (y := y) (Ts := sj_Big) (C := y.cls) ⟨hC.1, hC.2.1, hC.2.2.1, hC.2.2.2.1, hC.2.2.2.2.1⟩ hM ⟨callB_of n hC.2.2.2.2.1 (sj_goodIn (fun _ h => h) hco) rfl rfl rfl (hC.2.2.2.2.1 _ hini) (hC.2.2.2.2.1 _ hli) hd hR, hC.2.2.2.2.1 _ hin, hC.2.2.2.2.1 _ hse⟩ ⟨sj_blind, sj_recv hC hH hc h6 hT, (sj_pre hC hH).2⟩ rfl hn hl rfl (lv_room hW) hdg hf
theorem sj_runVN {host : String} (hC : sj_C G p l s m args c cc own nL) (hH : sj_H G s w H locs) (hM : vx_Met l y (sj_ws y bytes maxL ret) rm (va_Pc (.ref b :: As) (sj_P G w)) Qc (sj_XC G QX) rm.cells rm.slots (sj_F G)) {ci : Nat} {T : u_T} {N : Nat} (hc : vwCl[ci]? = some (y.cls, T, N)) (h6 : ci < 6) (hT : sj_T w b = ci + 1)
    (hli : Cond.methodLinkNest own index y host ∈ sj_Nws) (hin : Cond.instanceMethod y ∈ sj_Big) (hse : Cond.selects y.cls y y ∈ sj_Big) (hini : Cond.initialized y.cls ∈ sj_Big) (hco : Cond.code y bytes maxL ret ∈ sj_Big) (hd : y.cls ≠ "java/lang/invoke/MethodHandle" ∧ y.cls ≠ "java/lang/invoke/VarHandle" ∧ (parseMethodDescriptor y.desc).map (fun d => d.parameters.length) = some n)
    (hR : rm.frames + 1 ≤ R.frames ∧ 8 + (maxL + 11) + rm.locals ≤ R.locals) (hf : cells + rm.cells ≤ R.cells ∧ slots + rm.slots ≤ R.slots) (hn : As.length = n) (hl : ls.size = nL) (hW : (rest.map fun v => v.category).sum ≤ 8) (hdg : decode cc pc = .ok (.invokevirtual index, 3)) :
    vx_Run p l e R s m args below meth c H locs cells slots rm.cells rm.slots (F0 m pc ls (As.reverse ++ .ref b :: rest)) rest (Qc (Value.ref b :: As).toArray) (sj_XC G QX) (sj_F G) :=
  vx_runVN (n := n) (y := y) (Ts := sj_Big) (C := y.cls) (host := host) ⟨hC.1, hC.2.1, hC.2.2.1, hC.2.2.2.1, hC.2.2.2.2.1⟩ hM ⟨va_cnB n hC.2.2.2.2.1 (sj_goodIn (fun _ h => h) hco) rfl rfl rfl (hC.2.2.2.2.2.1.2.2.2.2.2.1 _ hli) (hC.2.2.2.2.1 _ hini) hd hR, hC.2.2.2.2.1 _ hin, hC.2.2.2.2.1 _ hse⟩ ⟨sj_blind, sj_recv hC hH hc h6 hT, (sj_pre hC hH).2⟩ rfl hn hl rfl (lv_room hW) hdg hf
theorem sj_runS (hC : sj_C G p l s m args c cc own nL) (hH : sj_H G s w H locs) (hM : vx_Met l y (sj_ws y bytes maxL ret) rm (va_Pc As (sj_P G w)) Qc (sj_XC G QX) rm.cells rm.slots (sj_F G))
    (hli : Cond.methodLink own index y ∈ sj_Big) (hst : Cond.static y ∈ sj_Big) (hini : Cond.initialized y.cls ∈ sj_Big) (hco : Cond.code y bytes maxL ret ∈ sj_Big) (hd : y.cls ≠ "java/lang/invoke/MethodHandle" ∧ y.cls ≠ "java/lang/invoke/VarHandle" ∧ (parseMethodDescriptor y.desc).map (fun d => d.parameters.length) = some n)
    (hR : rm.frames + 1 ≤ R.frames ∧ 8 + (maxL + 11) + rm.locals ≤ R.locals) (hf : cells + rm.cells ≤ R.cells ∧ slots + rm.slots ≤ R.slots) (hn : As.length = n) (hl : ls.size = nL) (hW : (rest.map fun v => v.category).sum ≤ 8) (hdg : decode cc pc = .ok (.invokestatic index, 3)) :
    vx_Run p l e R s m args below meth c H locs cells slots rm.cells rm.slots (F0 m pc ls (As.reverse ++ rest)) rest (Qc As.toArray) (sj_XC G QX) (sj_F G) :=
  vx_runS (n := n) (y := y) (Ts := sj_Big) ⟨hC.1, hC.2.1, hC.2.2.1, hC.2.2.2.1, hC.2.2.2.2.1⟩ hM ⟨callB_of n hC.2.2.2.2.1 (sj_goodIn (fun _ h => h) hco) rfl rfl rfl (hC.2.2.2.2.1 _ hini) (hC.2.2.2.2.1 _ hli) hd hR, hC.2.2.2.2.1 _ hst⟩ (sj_pre hC hH) rfl hn hl rfl (lv_room hW) hdg hf
theorem sj_runSN {host : String} (hC : sj_C G p l s m args c cc own nL) (hH : sj_H G s w H locs) (hM : vx_Met l y (sj_ws y bytes maxL ret) rm (va_Pc As (sj_P G w)) Qc (sj_XC G QX) rm.cells rm.slots (sj_F G))
    (hli : Cond.methodLinkNest own index y host ∈ sj_Nws) (hst : Cond.static y ∈ sj_Big) (hini : Cond.initialized y.cls ∈ sj_Big) (hco : Cond.code y bytes maxL ret ∈ sj_Big) (hd : y.cls ≠ "java/lang/invoke/MethodHandle" ∧ y.cls ≠ "java/lang/invoke/VarHandle" ∧ (parseMethodDescriptor y.desc).map (fun d => d.parameters.length) = some n)
    (hR : rm.frames + 1 ≤ R.frames ∧ 8 + (maxL + 11) + rm.locals ≤ R.locals) (hf : cells + rm.cells ≤ R.cells ∧ slots + rm.slots ≤ R.slots) (hn : As.length = n) (hl : ls.size = nL) (hW : (rest.map fun v => v.category).sum ≤ 8) (hdg : decode cc pc = .ok (.invokestatic index, 3)) :
    vx_Run p l e R s m args below meth c H locs cells slots rm.cells rm.slots (F0 m pc ls (As.reverse ++ rest)) rest (Qc As.toArray) (sj_XC G QX) (sj_F G) :=
  vx_runSN (n := n) (y := y) (Ts := sj_Big) (host := host) ⟨hC.1, hC.2.1, hC.2.2.1, hC.2.2.2.1, hC.2.2.2.2.1⟩ hM ⟨va_cnB n hC.2.2.2.2.1 (sj_goodIn (fun _ h => h) hco) rfl rfl rfl (hC.2.2.2.2.2.1.2.2.2.2.2.1 _ hli) (hC.2.2.2.2.1 _ hini) hd hR, hC.2.2.2.2.1 _ hst, trivial⟩ (sj_pre hC hH) rfl hn hl rfl (lv_room hW) hdg hf
theorem sj_runI (hC : sj_C G p l s m args c cc own nL) (hH : sj_H G s w H locs) (hM : vx_Met l y (sj_ws y bytes maxL none) rm (va_Pc (.ref b :: As) (sj_P G w)) Qc (sj_XC G QX) rm.cells rm.slots (sj_F G))
    (hli : Cond.methodLink own index y ∈ sj_Big) (hin : Cond.instanceMethod y ∈ sj_Big) (hini : Cond.initialized y.cls ∈ sj_Big) (hco : Cond.code y bytes maxL none ∈ sj_Big) (hy : y.name = "<init>") (hd : y.cls ≠ "java/lang/invoke/MethodHandle" ∧ y.cls ≠ "java/lang/invoke/VarHandle" ∧ (parseMethodDescriptor y.desc).map (fun d => d.parameters.length) = some n)
    (hR : rm.frames + 1 ≤ R.frames ∧ 8 + (maxL + 11) + rm.locals ≤ R.locals) (hf : cells + rm.cells ≤ R.cells ∧ slots + rm.slots ≤ R.slots) (hn : As.length = n) (hl : ls.size = nL) (hW : (rest.map fun v => v.category).sum ≤ 8) (hdg : decode cc pc = .ok (.invokespecial index, 3)) :
    vx_Run p l e R s m args below meth c H locs cells slots rm.cells rm.slots (F0 m pc ls (As.reverse ++ .ref b :: rest)) rest (Qc (Value.ref b :: As).toArray) (sj_XC G QX) (sj_F G) :=
  vx_runI (n := n) (y := y) (Ts := sj_Big) ⟨hC.1, hC.2.1, hC.2.2.1, hC.2.2.2.1, hC.2.2.2.2.1⟩ hM ⟨callB_of n hC.2.2.2.2.1 (sj_goodIn (fun _ h => h) hco) rfl rfl rfl (hC.2.2.2.2.1 _ hini) (hC.2.2.2.2.1 _ hli) hd hR, hy, hC.2.2.2.2.1 _ hin⟩ (sj_pre hC hH) rfl hn hl rfl (lv_room hW) hdg hf
theorem sj_runIN {host : String} (hC : sj_C G p l s m args c cc own nL) (hH : sj_H G s w H locs) (hM : vx_Met l y (sj_ws y bytes maxL none) rm (va_Pc (.ref b :: As) (sj_P G w)) Qc (sj_XC G QX) rm.cells rm.slots (sj_F G))
    (hli : Cond.methodLinkNest own index y host ∈ sj_Nws) (hin : Cond.instanceMethod y ∈ sj_Big) (hini : Cond.initialized y.cls ∈ sj_Big) (hco : Cond.code y bytes maxL none ∈ sj_Big) (hy : y.name = "<init>") (hd : y.cls ≠ "java/lang/invoke/MethodHandle" ∧ y.cls ≠ "java/lang/invoke/VarHandle" ∧ (parseMethodDescriptor y.desc).map (fun d => d.parameters.length) = some n)
    (hR : rm.frames + 1 ≤ R.frames ∧ 8 + (maxL + 11) + rm.locals ≤ R.locals) (hf : cells + rm.cells ≤ R.cells ∧ slots + rm.slots ≤ R.slots) (hn : As.length = n) (hl : ls.size = nL) (hW : (rest.map fun v => v.category).sum ≤ 8) (hdg : decode cc pc = .ok (.invokespecial index, 3)) :
    vx_Run p l e R s m args below meth c H locs cells slots rm.cells rm.slots (F0 m pc ls (As.reverse ++ .ref b :: rest)) rest (Qc (Value.ref b :: As).toArray) (sj_XC G QX) (sj_F G) :=
  vx_runIN (n := n) (y := y) (Ts := sj_Big) (host := host) ⟨hC.1, hC.2.1, hC.2.2.1, hC.2.2.2.1, hC.2.2.2.2.1⟩ hM ⟨va_cnB n hC.2.2.2.2.1 (sj_goodIn (fun _ h => h) hco) rfl rfl rfl (hC.2.2.2.2.2.1.2.2.2.2.2.1 _ hli) (hC.2.2.2.2.1 _ hini) hd hR, hy, hC.2.2.2.2.1 _ hin⟩ (sj_pre hC hH) rfl hn hl rfl (lv_room hW) hdg hf
/-! the way on behind a call, in a body without handlers: what is thrown goes on to the caller -/
variable {a : Array Value} {mc ms : Nat} {rmM : Room} {QcM : Array Value → State → Outcome → State → Prop} {st0 : List Value}
theorem sj_kx (hD : sj_D meth c) (hf : cells ≤ rmM.cells ∧ slots ≤ rmM.slots) {E : String} {ce : Cell} {q9 : Addr} {u : sj_W} {t : State} {H1 : Heap} {locs1 : List Loc} (ht : t.heap = H1) (hB : sj_BX G QX E u t) (hS : va_S (sj_F G) s.heap H1 locs1) (hq : H1[q9]? = some ce) (hv : ce.vm = .none) (hcl : s.vm.findClass E = some ce.cls) :
    vx_W p l e R s m args below meth c H1 locs1 cells slots (sj_MQ G below QcM QX args s rmM) (F0 m pc ls rest) q9 := by
  subst ht
  refine vx_out (E := E) (ce := ce) (fun x hx => (hD.1 x hx).elim) hD.2 hq hv hcl (fun t2 ht2 _ => ⟨u, trivial, ⟨hB.1, by rw [ht2]; exact hB.2⟩, hS.F ht2⟩) hS.2.2 hf.1 hf.2
theorem sj_cI {Qi : Int32 → sj_W → Prop} (hD : sj_D meth c) (hH : sj_H G s w H locs) (hr : vx_Run p l e R s m args below meth c H locs cells slots mc ms (F0 m pc ls st0) rest (va_Qi Qi (sj_B G) (sj_F G) a) (sj_XC G QX) (sj_F G)) (hf : cells + mc ≤ rmM.cells ∧ slots + ms ≤ rmM.slots)
    (kk : ∀ (r : Int32) (w1 : sj_W) (H1 : Heap) (locs1 : List Loc), sj_H G s w1 H1 locs1 → Qi r w1 → W p l e R s m args below meth c H1 locs1 (cells + mc) (slots + ms) (sj_MQ G below QcM QX args s rmM) (F0 m (pc + 3) ls (.int r :: rest))) : W p l e R s m args below meth c H locs cells slots (sj_MQ G below QcM QX args s rmM) (F0 m pc ls st0) :=
  vx_calli hr hH.2 (fun _ _ h => h) (fun _ h => h) (fun _ _ h => h) (fun E ce q9 u t H1 locs1 ht _ _ hB _ _ hS hq hv hcl => sj_kx hD hf ht hB hS hq hv hcl) (fun r u t H1 locs1 ht _ hp hB _ _ hS => kk r u H1 locs1 ⟨by rw [← ht]; exact hB, hS⟩ hp)
theorem sj_cL {Qi : Int64 → sj_W → Prop} (hD : sj_D meth c) (hH : sj_H G s w H locs) (hr : vx_Run p l e R s m args below meth c H locs cells slots mc ms (F0 m pc ls st0) rest (va_Ql Qi (sj_B G) (sj_F G) a) (sj_XC G QX) (sj_F G)) (hf : cells + mc ≤ rmM.cells ∧ slots + ms ≤ rmM.slots)
    (kk : ∀ (r : Int64) (w1 : sj_W) (H1 : Heap) (locs1 : List Loc), sj_H G s w1 H1 locs1 → Qi r w1 → W p l e R s m args below meth c H1 locs1 (cells + mc) (slots + ms) (sj_MQ G below QcM QX args s rmM) (F0 m (pc + 3) ls (.long r :: rest))) : W p l e R s m args below meth c H locs cells slots (sj_MQ G below QcM QX args s rmM) (F0 m pc ls st0) :=
  vx_calll hr hH.2 (fun _ _ h => h) (fun _ h => h) (fun _ _ h => h) (fun E ce q9 u t H1 locs1 ht _ _ hB _ _ hS hq hv hcl => sj_kx hD hf ht hB hS hq hv hcl) (fun r u t H1 locs1 ht _ hp hB _ _ hS => kk r u H1 locs1 ⟨by rw [← ht]; exact hB, hS⟩ hp)
theorem sj_cV {Qi : sj_W → Prop} (hD : sj_D meth c) (hH : sj_H G s w H locs) (hr : vx_Run p l e R s m args below meth c H locs cells slots mc ms (F0 m pc ls st0) rest (va_Qv Qi (sj_B G) (sj_F G) a) (sj_XC G QX) (sj_F G)) (hf : cells + mc ≤ rmM.cells ∧ slots + ms ≤ rmM.slots)
    (kk : ∀ (w1 : sj_W) (H1 : Heap) (locs1 : List Loc), sj_H G s w1 H1 locs1 → Qi w1 → W p l e R s m args below meth c H1 locs1 (cells + mc) (slots + ms) (sj_MQ G below QcM QX args s rmM) (F0 m (pc + 3) ls rest)) : W p l e R s m args below meth c H locs cells slots (sj_MQ G below QcM QX args s rmM) (F0 m pc ls st0) :=
  vx_callv hr hH.2 (fun _ _ h => h) (fun _ h => h) (fun _ _ h => h) (fun E ce q9 u t H1 locs1 ht _ _ hB _ _ hS hq hv hcl => sj_kx hD hf ht hB hS hq hv hcl) (fun u t H1 locs1 ht _ hp hB _ _ hS => kk u H1 locs1 ⟨by rw [← ht]; exact hB, hS⟩ hp)
theorem sj_cR {Qi : Nat → sj_W → Prop} (hD : sj_D meth c) (hH : sj_H G s w H locs) (hr : vx_Run p l e R s m args below meth c H locs cells slots mc ms (F0 m pc ls st0) rest (va_Qq (sj_QR Qi) (sj_B G) (sj_F G) a) (sj_XC G QX) (sj_F G)) (hf : cells + mc ≤ rmM.cells ∧ slots + ms ≤ rmM.slots)
    (kk : ∀ (r : Nat) (w1 : sj_W) (H1 : Heap) (locs1 : List Loc), sj_H G s w1 H1 locs1 → Qi r w1 → W p l e R s m args below meth c H1 locs1 (cells + mc) (slots + ms) (sj_MQ G below QcM QX args s rmM) (F0 m (pc + 3) ls (.ref r :: rest))) : W p l e R s m args below meth c H locs cells slots (sj_MQ G below QcM QX args s rmM) (F0 m pc ls st0) :=
  vx_callq hr hH.2 (fun _ _ h => h) (fun _ h => h) (fun _ _ h => h) (fun E ce q9 u t H1 locs1 ht _ _ hB _ _ hS hq hv hcl => sj_kx hD hf ht hB hS hq hv hcl) (fun r u t H1 locs1 ht _ hp hB _ _ hS => by
    obtain ⟨r1, rfl, hp1⟩ := hp
    exact kk r1 u H1 locs1 ⟨by rw [← ht]; exact hB, hS⟩ hp1)
/-! a method's end -/
theorem sj_retI {Qi : Int32 → sj_W → Prop} {ty : FieldType} (hC : sj_C G p l s m args c cc own nL) (hD : sj_D meth c) (hH : sj_H G s w H locs) (hr : meth.sig.returnType = some ty) {v : Int32} (hn : narrow ty (.int v) = .int v) (hq : Qi v w) (hf : cells ≤ rmM.cells ∧ slots ≤ rmM.slots) (hdg : decode cc pc = .ok (.ireturn, 1)) :
    W p l e R s m args below meth c H locs cells slots (sj_MQ G below (va_Qi Qi (sj_B G) (sj_F G)) QX args s rmM) (F0 m pc ls [.int v]) := by
  have hlocks := hD.2
  refine W.widen hf.1 hf.2 (vx_ret ?_)
  exact W.zret hC.1 hC.2.1 hr hn (fun t ht _ => ⟨⟨v, w, rfl, hq, show sj_M G w t.heap by rw [ht]; exact hH.1⟩, hH.2.F ht⟩) hH.2.2.2 hdg
theorem sj_retL {Qi : Int64 → sj_W → Prop} (hC : sj_C G p l s m args c cc own nL) (hD : sj_D meth c) (hH : sj_H G s w H locs) (hr : meth.sig.returnType = some .long) {v : Int64} (hq : Qi v w) (hf : cells ≤ rmM.cells ∧ slots ≤ rmM.slots) (hdg : decode cc pc = .ok (.lreturn, 1)) :
    W p l e R s m args below meth c H locs cells slots (sj_MQ G below (va_Ql Qi (sj_B G) (sj_F G)) QX args s rmM) (F0 m pc ls [.long v]) := by
  have hlocks := hD.2
  refine W.widen hf.1 hf.2 (vx_ret ?_)
  exact W.lret hC.1 hC.2.1 hr (fun t ht _ => ⟨⟨v, w, rfl, hq, show sj_M G w t.heap by rw [ht]; exact hH.1⟩, hH.2.F ht⟩) hH.2.2.2 hdg
theorem sj_retF {Qi : UInt32 → sj_W → Prop} (hC : sj_C G p l s m args c cc own nL) (hD : sj_D meth c) (hH : sj_H G s w H locs) (hr : meth.sig.returnType = some .float) {v : UInt32} (hq : Qi v w) (hf : cells ≤ rmM.cells ∧ slots ≤ rmM.slots) (hdg : decode cc pc = .ok (.freturn, 1)) :
    W p l e R s m args below meth c H locs cells slots (sj_MQ G below (va_Qf Qi (sj_B G) (sj_F G)) QX args s rmM) (F0 m pc ls [.float v]) := by
  have hlocks := hD.2
  refine W.widen hf.1 hf.2 (vx_ret ?_)
  exact W.fret hC.1 hC.2.1 hr (fun t ht _ => ⟨⟨v, w, rfl, hq, show sj_M G w t.heap by rw [ht]; exact hH.1⟩, hH.2.F ht⟩) hH.2.2.2 hdg
theorem sj_retD {Qi : UInt64 → sj_W → Prop} (hC : sj_C G p l s m args c cc own nL) (hD : sj_D meth c) (hH : sj_H G s w H locs) (hr : meth.sig.returnType = some .double) {v : UInt64} (hq : Qi v w) (hf : cells ≤ rmM.cells ∧ slots ≤ rmM.slots) (hdg : decode cc pc = .ok (.dreturn, 1)) :
    W p l e R s m args below meth c H locs cells slots (sj_MQ G below (va_Qd Qi (sj_B G) (sj_F G)) QX args s rmM) (F0 m pc ls [.double v]) := by
  have hlocks := hD.2
  refine W.widen hf.1 hf.2 (vx_ret ?_)
  exact W.dret hC.1 hC.2.1 hr (fun t ht _ => ⟨⟨v, w, rfl, hq, show sj_M G w t.heap by rw [ht]; exact hH.1⟩, hH.2.F ht⟩) hH.2.2.2 hdg
theorem sj_retV {Qi : sj_W → Prop} (hC : sj_C G p l s m args c cc own nL) (hD : sj_D meth c) (hH : sj_H G s w H locs) (hr : meth.sig.returnType = none) (hq : Qi w) (hf : cells ≤ rmM.cells ∧ slots ≤ rmM.slots) (hdg : decode cc pc = .ok (.return_, 1)) :
    W p l e R s m args below meth c H locs cells slots (sj_MQ G below (va_Qv Qi (sj_B G) (sj_F G)) QX args s rmM) (F0 m pc ls []) := by
  have hlocks := hD.2
  refine W.widen hf.1 hf.2 (vx_ret ?_)
  exact W.vret hC.1 hC.2.1 hr (fun t ht _ => ⟨⟨w, rfl, hq, show sj_M G w t.heap by rw [ht]; exact hH.1⟩, hH.2.F ht⟩) hH.2.2.2 hdg
theorem sj_retR {Qi : Nat → sj_W → Prop} {ty : FieldType} (hty : (∃ n, ty = .object n) ∨ ∃ t, ty = .array t) (hC : sj_C G p l s m args c cc own nL) (hD : sj_D meth c) (hH : sj_H G s w H locs) (hr : meth.sig.returnType = some ty) {v : Nat} (hq : Qi v w) (hf : cells ≤ rmM.cells ∧ slots ≤ rmM.slots) (hdg : decode cc pc = .ok (.areturn, 1)) :
    W p l e R s m args below meth c H locs cells slots (sj_MQ G below (va_Qq (sj_QR Qi) (sj_B G) (sj_F G)) QX args s rmM) (F0 m pc ls [.ref v]) := by
  have hlocks := hD.2
  refine W.widen hf.1 hf.2 (vx_ret ?_)
  exact W.aret hC.1 hC.2.1 hr hty (Or.inr ⟨v, rfl⟩) (fun t ht _ => ⟨⟨some v, w, rfl, ⟨v, rfl, hq⟩, show sj_M G w t.heap by rw [ht]; exact hH.1⟩, hH.2.F ht⟩) hH.2.2.2 hdg
end SJC
end
section
/-! WHAT IS MADE, WHAT IS THROWN, and a method's entry, over the world -/
theorem sj_e_nw {cA : Nat → ClassId} {w : sj_W} {q t n b : Nat} (hb : b ≠ q) : sj_e cA (sj_nw w q t n) b = sj_e cA w b := by
  have hT : sj_T (sj_nw w q t n) b = sj_T w b := if_neg hb
  have hN : sj_N (sj_nw w q t n) b = sj_N w b := if_neg hb
  have hi : sj_i (sj_nw w q t n) b = sj_i w b := funext fun _ => if_neg hb
  have hl : sj_l (sj_nw w q t n) b = sj_l w b := funext fun _ => if_neg hb
  have hr : sj_r (sj_nw w q t n) b = sj_r w b := funext fun _ => if_neg hb
  have hd : sj_d (sj_nw w q t n) b = sj_d w b := funext fun _ => if_neg hb
  have hI : ∀ f, sj_I (sj_nw w q t n) f b = sj_I w f b := fun _ => if_neg hb
  have hA : ∀ f, sj_A (sj_nw w q t n) f b = sj_A w f b := fun _ => if_neg hb
  have hfs : ∀ c, sj_fs (sj_nw w q t n) c b = sj_fs w c b := fun c => by
    unfold sj_fs
    refine List.map_congr_left fun k _ => ?_
    unfold sj_fv
    rw [hI, hA]
  unfold sj_e sj_pl
  rw [hT, hN, hi, hl, hr, hd, hfs]
/-- a new object's fields -/
def sj_f0 (c : Nat) : List Value := (List.range (sj_nf c)).map (fun k => if sj_rf (8 * c + k) = true then .null else .int 0)
theorem sj_fs_nw {w : sj_W} {q t n c : Nat} : sj_fs (sj_nw w q t n) c q = sj_f0 c := by
  unfold sj_fs sj_f0
  refine List.map_congr_left fun k _ => ?_
  have hI : sj_I (sj_nw w q t n) (8 * c + k) q = 0 := if_pos rfl
  have hA : sj_A (sj_nw w q t n) (8 * c + k) q = 0 := if_pos rfl
  unfold sj_fv
  rw [hI, hA]
  rfl
section SJN
variable {p : Program} {l : Launch} {e : Env} {R : Room} {s : State} {m : MethodId} {args : Array Value} {below : List Frame} {meth : Method} {c : Code} {H : Heap} {locs : List Loc} {cells slots : Nat} {Q : State → Prop}
variable {cc : ByteArray} {pc : Nat} {ls : Array Slot} {rest : List Value} {G : sj_G} {own : String} {nL : Nat} {w : sj_W}
theorem sj_newO (hC : sj_C G p l s m args c cc own nL) (hH : sj_H G s w H locs) {ci index : Nat} {C : String} {T : u_T} {N : Nat} (ty : Nat → FieldType) (hc : vwCl[ci]? = some (C, T, N)) (h6 : ci < 6) (hin : ∀ z ∈ u_ws C T N, z ∈ sj_Big) (hty : ∀ k, k < N → parseFieldDescriptor (T k).2.2.1 = some (ty k)) (hcl : Cond.classLink own index C ∈ sj_Big) (hinst : Cond.instantiable C N ∈ sj_Big) (hini : Cond.initialized C ∈ sj_Big) (hdf : ∀ j, j < N → defaultValue (ty j) = vp_V (sj_f0 ci) j) (hcells : cells + 1 ≤ R.cells) (hslots : slots + N ≤ R.slots) (hdg : decode cc pc = .ok (.new index, 3))
    (kk : ∀ (q : Nat) (H1 : Heap), q ≠ 0 → sj_T w q = 0 → sj_H G s (sj_nw w q (ci + 1) 0) H1 locs → W p l e R s m args below meth c H1 locs (cells + 1) (slots + N) Q (F0 m (pc + 3) ls (.ref q :: rest))) : W p l e R s m args below meth c H locs cells slots Q (F0 m pc ls rest) := by
  obtain ⟨hx, hb, -, hown, hts, hK, -⟩ := hC
  obtain ⟨⟨L, hL, hP, hD⟩, hS⟩ := hH
  refine va_new hx hb hts hin ty hty hown (hts _ hcl) (hts _ hinst) (hts _ hini) hK.1 hP hD hS (sj_hA hK) hc hdf hcells hslots hdg (fun q H1 hP1 hD1 hS1 => ?_)
  obtain ⟨h1, h2, h3⟩ := sj_M.push (w' := sj_nw w q (ci + 1) 0) hL hP1 hD1 (t := ci + 1) (by omega) (fun a => rfl) (by
    rw [sj_eO (w := sj_nw w q (ci + 1) 0) (if_pos rfl) h6, sj_fs_nw]) (fun b hb => sj_e_nw hb)
  exact kk q H1 (by have := sj_pos hK; omega) h1 ⟨h3, hS1⟩
theorem sj_newA (hC : sj_C G p l s m args c cc own nL) (hH : sj_H G s w H locs) {t : Nat} {atype : ArrayType} {ty : FieldType} (hty : newarray.typeOf atype = ty) (hat : Cond.arrayClass ty ∈ sj_Big) (hki : (sj_tys G.2.1)[t]? = some (G.2.1 t, ty)) (hno : ∀ C, ty ≠ .object C) {n : Int32} {N : Nat} {a0 : (Nat → Int32) ⊕ (Nat → Int64) ⊕ (Nat → UInt32) ⊕ (Nat → UInt64) ⊕ (Nat → Option Nat)} (ha0 : ∀ q, sj_pl (t + 7) (sj_nw w q (t + 7) N) q = a0) (hcell : ∀ cA : ClassId, vp_cell cA (N, a0) = arrV cA N (fun _ => defaultValue ty)) (hn : ¬ n < 0) (hN : n.toNatClampNeg = N) (hbytes : N * componentBytes ty ≤ 536870912) (hcells : cells + 1 ≤ R.cells) (hslots : slots + N ≤ R.slots) (hdg : decode cc pc = .ok (.newarray atype, 2))
    (kk : ∀ (q : Nat) (H1 : Heap), q ≠ 0 → sj_T w q = 0 → sj_H G s (sj_nw w q (t + 7) N) H1 locs → W p l e R s m args below meth c H1 locs (cells + 1) (slots + N) Q (F0 m (pc + 2) ls (.ref q :: rest))) : W p l e R s m args below meth c H locs cells slots Q (F0 m pc ls (.int n :: rest)) := by
  obtain ⟨hx, hb, -, hown, hts, hK, -⟩ := hC
  obtain ⟨⟨L, hL, hP, hD⟩, hS⟩ := hH
  refine va_newa hx hb (by rw [hty]; exact hts _ hat) hty hK.1 hP hD hS (sj_hA hK) (a0 := (N, a0)) hcell hn hN hbytes hcells hslots hdg (fun q cA H1 hK1 hP1 hD1 hS1 => ?_)
  have hcA : cA = G.2.1 t := by
    have h1 := (hK.1.2 t _ hki).2
    have h2 := (hK1.2 (sj_tys G.2.1).length (cA, ty) (by rw [List.getElem?_append_right (Nat.le_refl _), Nat.sub_self]; rfl)).2
    cases ty with
    | object C => exact absurd rfl (hno C)
    | _ =>
      have h1 : s.vm.findClass _ = some (G.2.1 t) := h1
      have h2 : s.vm.findClass _ = some cA := h2
      exact (Option.some.inj (h1.symm.trans h2)).symm
  subst hcA
  obtain ⟨h1, h2, h3⟩ := sj_M.push (w' := sj_nw w q (t + 7) N) hL hP1 hD1 (t := t + 7) (by omega) (fun a => rfl) (by
    rw [sj_eA (w := sj_nw w q (t + 7) N) (t := t) (if_pos rfl), ha0]
    exact congrArg (fun z => Sum.inl (G.2.1 t, z, a0)) (if_pos rfl)) (fun b hb => sj_e_nw hb)
  exact kk q H1 (by have := sj_pos hK; omega) h1 ⟨h3, hS1⟩
theorem sj_pl_i {w : sj_W} {q t n : Nat} : sj_pl 7 (sj_nw w q t n) q = .inl (fun _ => 0) := by
  unfold sj_pl
  rw [if_pos rfl]
  exact congrArg Sum.inl (funext fun _ => if_pos rfl)
theorem sj_pl_l {w : sj_W} {q t n : Nat} : sj_pl 8 (sj_nw w q t n) q = .inr (.inl (fun _ => 0)) := by
  unfold sj_pl
  rw [if_neg (by decide), if_pos rfl]
  exact congrArg (fun z => Sum.inr (Sum.inl z)) (funext fun _ => if_pos rfl)
theorem sj_pl_d {w : sj_W} {q t n : Nat} : sj_pl 9 (sj_nw w q t n) q = .inr (.inr (.inr (.inl (fun _ => 0)))) := by
  unfold sj_pl
  rw [if_neg (by decide), if_neg (by decide), if_pos rfl]
  exact congrArg (fun z => Sum.inr (Sum.inr (Sum.inr (Sum.inl z)))) (funext fun _ => if_pos rfl)
theorem sj_newI (hC : sj_C G p l s m args c cc own nL) (hH : sj_H G s w H locs) {n : Int32} {N : Nat} (hat : Cond.arrayClass .int ∈ sj_Big) (hn : ¬ n < 0) (hN : n.toNatClampNeg = N) (hb : N ≤ 1000) (hcells : cells + 1 ≤ R.cells) (hslots : slots + N ≤ R.slots) (hdg : decode cc pc = .ok (.newarray .int, 2))
    (kk : ∀ (q : Nat) (w1 : sj_W) (H1 : Heap), q ≠ 0 → sj_T w q = 0 → w1 = sj_nw w q 7 N → sj_H G s w1 H1 locs → W p l e R s m args below meth c H1 locs (cells + 1) (slots + N) Q (F0 m (pc + 2) ls (.ref q :: rest))) : W p l e R s m args below meth c H locs cells slots Q (F0 m pc ls (.int n :: rest)) :=
  sj_newA (t := 0) (atype := .int) (ty := .int) hC hH rfl hat rfl (fun _ h => by cases h) (fun _ => sj_pl_i) (fun _ => rfl) hn hN (by show N * 4 ≤ _; omega) hcells hslots hdg (fun q H1 h1 h2 h => kk q _ H1 h1 h2 rfl h)
theorem sj_newJ (hC : sj_C G p l s m args c cc own nL) (hH : sj_H G s w H locs) {n : Int32} {N : Nat} (hat : Cond.arrayClass .long ∈ sj_Big) (hn : ¬ n < 0) (hN : n.toNatClampNeg = N) (hb : N ≤ 1000) (hcells : cells + 1 ≤ R.cells) (hslots : slots + N ≤ R.slots) (hdg : decode cc pc = .ok (.newarray .long, 2))
    (kk : ∀ (q : Nat) (w1 : sj_W) (H1 : Heap), q ≠ 0 → sj_T w q = 0 → w1 = sj_nw w q 8 N → sj_H G s w1 H1 locs → W p l e R s m args below meth c H1 locs (cells + 1) (slots + N) Q (F0 m (pc + 2) ls (.ref q :: rest))) : W p l e R s m args below meth c H locs cells slots Q (F0 m pc ls (.int n :: rest)) :=
  sj_newA (t := 1) (atype := .long) (ty := .long) hC hH rfl hat rfl (fun _ h => by cases h) (fun _ => sj_pl_l) (fun _ => rfl) hn hN (by show N * 8 ≤ _; omega) hcells hslots hdg (fun q H1 h1 h2 h => kk q _ H1 h1 h2 rfl h)
theorem sj_newD (hC : sj_C G p l s m args c cc own nL) (hH : sj_H G s w H locs) {n : Int32} {N : Nat} (hat : Cond.arrayClass .double ∈ sj_Big) (hn : ¬ n < 0) (hN : n.toNatClampNeg = N) (hb : N ≤ 1000) (hcells : cells + 1 ≤ R.cells) (hslots : slots + N ≤ R.slots) (hdg : decode cc pc = .ok (.newarray .double, 2))
    (kk : ∀ (q : Nat) (w1 : sj_W) (H1 : Heap), q ≠ 0 → sj_T w q = 0 → w1 = sj_nw w q 9 N → sj_H G s w1 H1 locs → W p l e R s m args below meth c H1 locs (cells + 1) (slots + N) Q (F0 m (pc + 2) ls (.ref q :: rest))) : W p l e R s m args below meth c H locs cells slots Q (F0 m pc ls (.int n :: rest)) :=
  sj_newA (t := 2) (atype := .double) (ty := .double) hC hH rfl hat rfl (fun _ h => by cases h) (fun _ => sj_pl_d) (fun _ => rfl) hn hN (by show N * 8 ≤ _; omega) hcells hslots hdg (fun q H1 h1 h2 h => kk q _ H1 h1 h2 rfl h)
theorem sj_newQ (hC : sj_C G p l s m args c cc own nL) (hH : sj_H G s w H locs) {t index : Nat} {C : String} (h3 : 3 ≤ t) (hao : C ∈ sj_AO) (hcl : Cond.classLink own index C ∈ sj_Big) (hki : (sj_tys G.2.1)[t]? = some (G.2.1 t, .object C)) {n : Int32} {N : Nat} (hn : ¬ n < 0) (hN : n.toNatClampNeg = N) (hb : N ≤ 1000) (hcells : cells + 1 ≤ R.cells) (hslots : slots + N ≤ R.slots) (hdg : decode cc pc = .ok (.anewarray index, 3))
    (kk : ∀ (q : Nat) (w1 : sj_W) (H1 : Heap), q ≠ 0 → sj_T w q = 0 → w1 = sj_nw w q (t + 7) N → sj_H G s w1 H1 locs → W p l e R s m args below meth c H1 locs (cells + 1) (slots + N) Q (F0 m (pc + 3) ls (.ref q :: rest))) : W p l e R s m args below meth c H locs cells slots Q (F0 m pc ls (.int n :: rest)) := by
  obtain ⟨hx, hb, -, hown, hts, hK, -⟩ := hC
  obtain ⟨⟨L, hL, hP, hD⟩, hS⟩ := hH
  refine va_newq hx hb hown (hts _ hcl) (hK.2.2.2.2.2.2.1 C hao) hK.1 hP hD hS (sj_hA hK) hn hN (by omega) hcells hslots hdg (fun q cA H1 hK1 hP1 hD1 hS1 => ?_)
  have hcA : cA = G.2.1 t := by
    obtain ⟨_, _, _, _, _, h1⟩ := (hK.1.2 t _ hki).2
    obtain ⟨_, _, _, _, _, h2⟩ := (hK1.2 (sj_tys G.2.1).length (cA, .object C) (by rw [List.getElem?_append_right (Nat.le_refl _), Nat.sub_self]; rfl)).2
    exact (Option.some.inj (h1.symm.trans h2)).symm
  subst hcA
  obtain ⟨h1, h2, h4⟩ := sj_M.push (w' := sj_nw w q (t + 7) N) hL hP1 hD1 (t := t + 7) (by omega) (fun a => rfl) (by
    rw [sj_eA (w := sj_nw w q (t + 7) N) (t := t) (if_pos rfl)]
    have e1 : sj_pl (t + 7) (sj_nw w q (t + 7) N) q = .inr (.inr (.inr (.inr (fun _ => none)))) := by
      unfold sj_pl
      rw [if_neg (by omega), if_neg (by omega), if_neg (by omega)]
      refine congrArg (fun z => Sum.inr (Sum.inr (Sum.inr (Sum.inr z)))) (funext fun j => ?_)
      have e2 : sj_r (sj_nw w q (t + 7) N) q j = 0 := if_pos rfl
      rw [e2]
      rfl
    rw [e1]
    exact congrArg (fun z => Sum.inl (G.2.1 t, z, Sum.inr (Sum.inr (Sum.inr (Sum.inr (fun _ => none)))))) (if_pos rfl)) (fun b hb => sj_e_nw hb)
  exact kk q _ H1 (by have := sj_pos hK; omega) h1 rfl ⟨h4, hS1⟩
theorem sj_newM (hC : sj_C G p l s m args c cc own nL) (hH : sj_H G s w H locs) {index : Nat} {n k : Int32} {N K : Nat} (hat : Cond.arrayClass .int ∈ sj_Big) (hcl : Cond.classLink own index ("[" ++ (FieldType.array .int).toString) ∈ sj_Big) (hn : ¬ n < 0) (hk : ¬ k < 0) (hN : n.toNatClampNeg = N) (hM : k.toNatClampNeg = K) (hb1 : N ≤ 1000) (hb2 : K ≤ 1000) (hcells : cells + (1 + N) ≤ R.cells) (hslots : slots + (N + N * K) ≤ R.slots) (hdg : decode cc pc = .ok (.multianewarray index 2, 4))
    (kk : ∀ (q : Nat) (r : Nat → Nat) (w1 : sj_W) (H1 : Heap), q ≠ 0 → sj_T w q = 0 → (∀ i, i < N → r i ≠ 0 ∧ sj_T w (r i) = 0 ∧ r i ≠ q) → (∀ i j : Nat, i < N → j < N → r i = r j → i = j) → w1 = sj_nm w q r N K → sj_H G s w1 H1 locs → W p l e R s m args below meth c H1 locs (cells + 1 + N) (slots + N + N * K) Q (F0 m (pc + 4) ls (.ref q :: rest))) : W p l e R s m args below meth c H locs cells slots Q (F0 m pc ls (.int k :: .int n :: rest)) := by
  obtain ⟨hx, hb, -, hown, hts, hK, -⟩ := hC
  obtain ⟨⟨L, hL, hP, hD⟩, hS⟩ := hH
  have hcy : s.vm.findClass (FieldType.array .int).toString = some (G.2.1 0) := (hK.1.2 0 (G.2.1 0, .int) rfl).2
  refine va_mna (X := []) (L := L) (f := sj_e G.2.1 w) (z := (K, .inl (fun _ => 0))) (ty := .int) hx hb hown (hts _ hcl) hK.2.2.2.2.2.2.2.1 (hts _ hat) hcy hK.1 hP hD hS (sj_hA hK) hn hk hN hM (by omega) (by show K * 4 ≤ _; omega) (by omega) rfl rfl hcells hslots (fun c => by
    show _ = arrV c K (fun _ => .int 0)
    rw [← arrV_new]
    rfl) hdg (fun q r cA H1 hr hrL hK1 hP1 hD1 hS1 => ?_)
  have hcA : cA = G.2.1 6 := by
    have h1 := (hK.1.2 6 (G.2.1 6, .array .int) rfl).2
    have h2 := (hK1.2 (sj_tys G.2.1).length (cA, .array .int) (by rw [List.getElem?_append_right (Nat.le_refl _), Nat.sub_self]; rfl)).2
    have h1 : s.vm.findClass _ = some (G.2.1 6) := h1
    have h2 : s.vm.findClass _ = some cA := h2
    exact (Option.some.inj (h1.symm.trans h2)).symm
  subst hcA
  generalize hR : (List.range N).map r = L2 at hP1 hD1
  generalize hg : vr_up (sj_e G.2.1 w) L2 (.inl (G.2.1 0, (K, .inl (fun _ => 0)))) = g at hP1 hD1
  generalize heo : (Sum.inl (G.2.1 6, (N, Sum.inr (Sum.inr (Sum.inr (Sum.inr (fun i => if i < N then some (r i) else none)))))) : va_E) = eo at hP1 hD1
  have hP1 : va_P G.1 vwCl ((q, eo) :: va_pl (L ++ L2) g) H1 := hP1
  have hD1 : va_D (sj_F G) ((q, eo) :: va_pl (L ++ L2) g) := hD1
  have hq : q ∉ L ++ L2 := by
    intro h
    obtain ⟨k0, hk0⟩ := va_pl_get (X := [(q, eo)]) (f := g) h
    have hk0 : ((q, eo) :: va_pl (L ++ L2) g)[k0]? = some (q, g q) := hk0
    cases k0 with
    | zero =>
      obtain ⟨i, hi⟩ := List.getElem?_of_mem (show (q, g q) ∈ va_pl (L ++ L2) g from List.mem_map.mpr ⟨q, h, rfl⟩)
      have := hD1.1 0 (i + 1) (q, eo) (q, g q) rfl hi rfl
      omega
    | succ j =>
      have := hD1.1 0 (j + 1) (q, eo) (q, g q) rfl hk0 rfl
      omega
  have hB : ∀ a, a ∈ L ++ L2 → G.2.2 ≤ a := by
    intro a ha
    obtain ⟨k0, hk0⟩ := va_pl_get (X := [(q, eo)]) (f := g) ha
    exact hD1.2 k0 _ hk0
  have hBq : G.2.2 ≤ q := hD1.2 0 (q, eo) rfl
  have h0 := sj_pos hK
  have hr2 : ∀ i, i < N → r i ∈ L2 := fun i hi => by rw [← hR]; exact List.mem_map.mpr ⟨i, List.mem_range.mpr hi, rfl⟩
  have hz : ∀ i, i < N → r i ≠ 0 ∧ sj_T w (r i) = 0 ∧ r i ≠ q := fun i hi => ⟨by have := hB _ (List.mem_append_right _ (hr2 i hi)); omega, Classical.byContradiction fun h => hrL i hi ((hL _).mp h), fun h => hq (h ▸ List.mem_append_right _ (hr2 i hi))⟩
  refine kk q r _ H1 (by omega) (Classical.byContradiction fun h => hq (List.mem_append_left _ ((hL q).mp h))) hz hr rfl ⟨⟨q :: (L ++ L2), fun b => ?_, ?_⟩, hS1⟩
  · have hT : sj_T (sj_nm w q r N K) b = if b = q then 13 else if b ∈ (List.range N).map r then 7 else sj_T w b := rfl
    rw [hT, hR, List.mem_cons, List.mem_append]
    by_cases h1 : b = q
    · rw [if_pos h1]; exact ⟨fun _ => Or.inl h1, fun _ => by omega⟩
    · rw [if_neg h1]
      by_cases h2 : b ∈ L2
      · rw [if_pos h2]; exact ⟨fun _ => Or.inr (Or.inr h2), fun _ => by omega⟩
      · rw [if_neg h2]; exact ⟨fun h => Or.inr (Or.inl ((hL b).mp h)), fun h => h.elim (fun h => absurd h h1) (fun h => h.elim (fun h => (hL b).mpr h) (fun h => absurd h h2))⟩
  · have he : sj_e G.2.1 (sj_nm w q r N K) = va_up g q eo := by
      funext b
      have hT : sj_T (sj_nm w q r N K) b = if b = q then 13 else if b ∈ (List.range N).map r then 7 else sj_T w b := rfl
      have hNN : sj_N (sj_nm w q r N K) b = if b = q then N else if b ∈ (List.range N).map r then K else sj_N w b := rfl
      rw [hR] at hT hNN
      by_cases h1 : b = q
      · subst h1
        rw [if_pos rfl] at hT hNN
        rw [va_up_self, sj_eA (t := 6) hT, hNN, ← heo]
        refine congrArg (fun z => Sum.inl (G.2.1 6, N, Sum.inr (Sum.inr (Sum.inr (Sum.inr z))))) (funext fun j => ?_)
        have e2 : sj_r (sj_nm w b r N K) b j = if j < N then r j else 0 := if_pos rfl
        rw [e2]
        by_cases hj : j < N
        · rw [if_pos hj, if_pos hj]
          unfold sj_o
          rw [if_neg (hz j hj).1]
        · rw [if_neg hj, if_neg hj]
          rfl
      · rw [if_neg h1] at hT hNN
        rw [va_up_ne _ _ h1, ← hg]
        by_cases h2 : b ∈ L2
        · rw [if_pos h2] at hT hNN
          rw [vr_up_in h2, sj_eA (t := 0) hT, hNN]
          refine congrArg (fun z => Sum.inl (G.2.1 0, K, Sum.inl z)) (funext fun j => ?_)
          show (if b ∈ (List.range N).map r then 0 else sj_i w b j) = 0
          rw [hR, if_pos h2]
        · rw [if_neg h2] at hT hNN
          rw [vr_up_ne h2]
          have hi : sj_i (sj_nm w q r N K) b = sj_i w b := funext fun j => by
            show (if b ∈ (List.range N).map r then 0 else sj_i w b j) = _
            rw [hR, if_neg h2]
          have hrr : sj_r (sj_nm w q r N K) b = sj_r w b := funext fun j => if_neg h1
          unfold sj_e sj_pl
          rw [hT, hNN, hi, hrr]
          rfl
    rw [he]
    have e3 : [] ++ va_pl (q :: (L ++ L2)) (va_up g q eo) = (q, eo) :: va_pl (L ++ L2) g := by
      show (q, va_up g q eo q) :: (L ++ L2).map (fun a => (a, va_up g q eo a)) = _
      rw [va_up_self]
      refine congrArg _ (List.map_congr_left fun a ha => ?_)
      rw [va_up_ne _ _ (show a ≠ q from fun h => hq (h ▸ ha))]
    rw [e3]
    exact ⟨hP1, hD1⟩
/-- 'throw new E("text")' in a body without handlers -/
theorem sj_throw {QX : String → sj_W → Prop} {Qc : Array Value → State → Outcome → State → Prop} {rmM : Room} (hC : sj_C G p l s m args c cc own nL) (hD : sj_D meth c) (hH : sj_H G s w H locs) {E text : String} {ik is ic : Nat} (hl : ls.size = nL) (hk : Cond.classLink own ik E ∈ sj_Big) (hini : Cond.initialized E ∈ sj_Big) (hst : (own, is, text) ∈ sj_strs) (hat : ∀ z ∈ vx_atS own ic E ["java/lang/RuntimeException", "java/lang/Exception"], z ∈ lw_tbl ∧ (goodWord z || sj_nok z) = true)
    (hgood : ∀ z ∈ Cond.classLink own ik E :: Cond.initialized E :: vx_atS own ic E ["java/lang/RuntimeException", "java/lang/Exception"], vx_ot z = true) (hE : Bundle.fit E = true)
    (d0 : decode cc pc = .ok (.new ik, 3)) (d3 : decode cc (pc + 3) = .ok (.dup, 1)) (d4 : decode cc (pc + 4) = .ok (.ldc is, 2)) (d6 : decode cc (pc + 6) = .ok (.invokespecial ic, 3)) (d9 : decode cc (pc + 9) = .ok (.athrow, 1))
    (hR : 5 < R.frames ∧ (rest.map fun v => v.category).sum + 82 ≤ R.locals) (hRc : cells + 1 ≤ R.cells ∧ slots + 6 ≤ R.slots) (hf : cells + 1 ≤ rmM.cells ∧ slots + 6 ≤ rmM.slots) (hq : QX E w) :
    W p l e R s m args below meth c H locs cells slots (sj_MQ G below Qc QX args s rmM) (F0 m pc ls rest) := by
  obtain ⟨hx, hb, hml, hown, hts, hK, hlt⟩ := hC
  obtain ⟨sa, hsa⟩ := hK.2.2.2.2.1 _ hst
  refine vx_throwS (A := sj_F G) hx hb hlt hown hE (by decide +kernel) (hts _ hk) (hts _ hini) hsa (fun z hz => ?_) hgood hK.2.1 hK.2.2.1 hH.2 (by rw [hml]; exact hl) d0 d3 d4 d6 d9 (fun x hx => (hD.1 x hx).elim) hR.1 hR.2 hRc.1 hRc.2 hD.2 (fun t hv h1 h2 => ?_) hH.2.2.2 hf.1 hf.2
  · obtain ⟨g1, g2⟩ := hat z hz
    rcases Bool.or_eq_true _ _ ▸ g2 with g | g
    · exact hts _ (sj_big g1 g)
    · exact sj_Nw_use g (hK.2.2.2.2.2.1 _ (sj_nws g1 g))
  · exact ⟨w, trivial, ⟨hq, hH.1.kept h2⟩, ⟨Nat.le_trans hH.2.1 h1, fun q hq1 hq2 => (h2 q (Nat.lt_of_lt_of_le hq1 hH.2.1)).trans (hH.2.2.1 q hq1 hq2)⟩⟩
/-- a method's entry, its contract out of the walk of its body -/
theorem sj_of {y : MethodName} {maxL : Nat} {ret : Option FieldType} {rm : Room} {As : List Value} {Qc : Array Value → State → Outcome → State → Prop} {QX : String → sj_W → Prop} (hy : plainName y.cls = true) (hlen : (lg_sl As).length ≤ maxL) (hlt : l.stackTraces = false)
    (body : ∀ (p : Program) (e : Env) (s : State) (m : MethodId) (args : Array Value) (below : List Frame) (meth : Method) (c : Code) (ls : Array Slot), sj_C G p l s m args c cc y.cls maxL → sj_D meth c → meth.sig.returnType = ret → meth.name = y.name → sj_H G s w s.heap [] → lv_has ls maxL (lv_args 0 As) →
      W p l e rm s m args below meth c s.heap [] 0 0 (sj_MQ G below Qc QX args s rm) (F0 m 0 ls [])) : vx_Met l y (sj_ws y cc maxL ret) rm (va_Pc As (sj_P G w)) Qc (sj_XC G QX) rm.cells rm.slots (sj_F G) := by
  refine vx_ofW (cc := cc) (maxL := maxL) (ret := ret) hy rfl ?_
  intro p e s m args below meth c s₁ B hml ht hv
  obtain ⟨rfl, hM, hK⟩ := hv
  rw [lg_entry_eq]
  exact body p e s m _ below meth c _ ⟨B.exec, B.bytes, hml, findClass_of_methodNamed B.named, fun z hz => atoms_spec (ws := sj_ws y cc maxL ret) B.pre z (List.mem_cons_of_mem _ hz), hK, hlt⟩ ⟨ht, B.notSynchronized⟩ B.returns (name_of_methodNamed B.named B.method).1 ⟨hM, va_S.rf⟩ (lv_entry As hlen)
end SJN
end
section
/-! small change for the walks -/
theorem sj_nz {v : Int32} (h : v = 0 ∨ v = 1) : narrow .boolean (.int v) = .int v ∧ fits .boolean (.int v) = true := by
  rcases h with rfl | rfl <;> exact ⟨rfl, rfl⟩
theorem sj_str {o : String} {k : Nat} {t : String} (h : Cond.stringRef o k t ∈ tables_1) : (o, k, t) ∈ sj_strs := List.mem_filterMap.mpr ⟨_, List.mem_append_right _ h, rfl⟩
theorem sj_ne {x n : Int32} {k : Int} (h : ¬ x = n) (hk : n.toInt = k) : ¬ k = x.toInt := fun q => h (Int32.toInt_inj.mp (by rw [hk, q]))
theorem sj_off3 {x a b c o1 o2 o3 d : Int} (h1 : ¬ a = x) (h2 : ¬ b = x) (h3 : ¬ c = x) : Op.lookupswitch.offset [(a, o1), (b, o2), (c, o3)] d x = d := by
  rw [Op.lookupswitch.offset_cons, if_neg h1, Op.lookupswitch.offset_cons, if_neg h2, Op.lookupswitch.offset_cons, if_neg h3, Op.lookupswitch.offset_nil]
theorem sj_off4 {x a b c e o1 o2 o3 o4 d : Int} (h1 : ¬ a = x) (h2 : ¬ b = x) (h3 : ¬ c = x) (h4 : ¬ e = x) : Op.lookupswitch.offset [(a, o1), (b, o2), (c, o3), (e, o4)] d x = d := by
  rw [Op.lookupswitch.offset_cons, if_neg h1, sj_off3 h2 h3 h4]
theorem mb_138 : Cond.classLink RX6 65 "java/lang/IllegalArgumentException" ∈ sj_Big := sj_big (List.mem_append_right _ (List.mem_of_getElem? (i := 138) (by decide +kernel))) (by decide +kernel)
theorem mb_9 : Cond.initialized "java/lang/IllegalArgumentException" ∈ sj_Big := sj_big (List.mem_append_right _ (List.mem_of_getElem? (i := 9) (by decide +kernel))) (by decide +kernel)
theorem mb_212 : Cond.fieldLink RX6 247 "Spanjudge" "LEAST" "[J" ∈ sj_Big := sj_big (List.mem_append_right _ (List.mem_of_getElem? (i := 212) (by decide +kernel))) (by decide +kernel)
theorem mb_214 : Cond.constantLong RX6 250 (-1) ∈ sj_Big := sj_big (List.mem_append_right _ (List.mem_of_getElem? (i := 214) (by decide +kernel))) (by decide +kernel)
theorem mb_209 : Cond.methodLink RX6 229 yX6_isNumberOf ∈ sj_Big := sj_big (List.mem_append_right _ (List.mem_of_getElem? (i := 209) (by decide +kernel))) (by decide +kernel)
theorem mb_211 : Cond.code yX6_isNumberOf cX6_isNumberOf 3 (some .boolean) ∈ sj_Big := sj_big (List.mem_append_right _ (List.mem_of_getElem? (i := 211) (by decide +kernel))) (by decide +kernel)
theorem mb_1 : Cond.initialized RX6 ∈ sj_Big := sj_big (List.mem_append_right _ (List.mem_of_getElem? (i := 1) (by decide +kernel))) (by decide +kernel)
theorem mb_210 : Cond.static yX6_isNumberOf ∈ sj_Big := sj_big (List.mem_append_right _ (List.mem_of_getElem? (i := 210) (by decide +kernel))) (by decide +kernel)
theorem mb_223 : Cond.classLink RX6 72 "java/lang/IndexOutOfBoundsException" ∈ sj_Big := sj_big (List.mem_append_right _ (List.mem_of_getElem? (i := 223) (by decide +kernel))) (by decide +kernel)
theorem mb_10 : Cond.initialized "java/lang/IndexOutOfBoundsException" ∈ sj_Big := sj_big (List.mem_append_right _ (List.mem_of_getElem? (i := 10) (by decide +kernel))) (by decide +kernel)
theorem mb_220 : Cond.methodLink RX6 93 yX6_wantRow ∈ sj_Big := sj_big (List.mem_append_right _ (List.mem_of_getElem? (i := 220) (by decide +kernel))) (by decide +kernel)
theorem mb_222 : Cond.code yX6_wantRow cX6_wantRow 1 none ∈ sj_Big := sj_big (List.mem_append_right _ (List.mem_of_getElem? (i := 222) (by decide +kernel))) (by decide +kernel)
theorem mb_221 : Cond.static yX6_wantRow ∈ sj_Big := sj_big (List.mem_append_right _ (List.mem_of_getElem? (i := 221) (by decide +kernel))) (by decide +kernel)
theorem mb_103 : Cond.fieldLink RX6 11 "Spanjudge" "rows" "[LSpanjudge$Row;" ∈ sj_Big := sj_big (List.mem_append_right _ (List.mem_of_getElem? (i := 103) (by decide +kernel))) (by decide +kernel)
theorem mb_135 : Cond.methodLink RX6 34 yX6_kindOf ∈ sj_Big := sj_big (List.mem_append_right _ (List.mem_of_getElem? (i := 135) (by decide +kernel))) (by decide +kernel)
theorem mb_137 : Cond.code yX6_kindOf cX6_kindOf 1 (some .int) ∈ sj_Big := sj_big (List.mem_append_right _ (List.mem_of_getElem? (i := 137) (by decide +kernel))) (by decide +kernel)
theorem mb_136 : Cond.static yX6_kindOf ∈ sj_Big := sj_big (List.mem_append_right _ (List.mem_of_getElem? (i := 136) (by decide +kernel))) (by decide +kernel)
theorem mb_206 : Cond.methodLink RX6 38 yX6_wantNumber ∈ sj_Big := sj_big (List.mem_append_right _ (List.mem_of_getElem? (i := 206) (by decide +kernel))) (by decide +kernel)
theorem mb_208 : Cond.code yX6_wantNumber cX6_wantNumber 3 none ∈ sj_Big := sj_big (List.mem_append_right _ (List.mem_of_getElem? (i := 208) (by decide +kernel))) (by decide +kernel)
theorem mb_207 : Cond.static yX6_wantNumber ∈ sj_Big := sj_big (List.mem_append_right _ (List.mem_of_getElem? (i := 207) (by decide +kernel))) (by decide +kernel)
theorem mb_216 : Cond.methodLink RX6 42 yX6_rowOf ∈ sj_Big := sj_big (List.mem_append_right _ (List.mem_of_getElem? (i := 216) (by decide +kernel))) (by decide +kernel)
theorem mb_219 : Cond.code yX6_rowOf cX6_rowOf 3 (some (.object "Spanjudge$Row")) ∈ sj_Big := sj_big (List.mem_append_right _ (List.mem_of_getElem? (i := 219) (by decide +kernel))) (by decide +kernel)
theorem mb_218 : Cond.instanceMethod yX6_rowOf ∈ sj_Big := sj_big (List.mem_append_right _ (List.mem_of_getElem? (i := 218) (by decide +kernel))) (by decide +kernel)
theorem mb_s1 : Cond.selects yX6_rowOf.cls yX6_rowOf yX6_rowOf ∈ sj_Big := sj_big (List.mem_append_left _ (List.mem_of_getElem? (i := 1) (by decide +kernel))) (by decide +kernel)
theorem mb_81 : Cond.fieldLinkNest RX6 46 "Spanjudge$Row" "size" "I" "Spanjudge" ∈ sj_Nws := sj_nws (List.mem_append_right _ (List.mem_of_getElem? (i := 81) (by decide +kernel))) (by decide +kernel)
theorem mb_78 : Cond.fieldLinkNest RX6 57 "Spanjudge$Row" "numbers" "[J" "Spanjudge" ∈ sj_Nws := sj_nws (List.mem_append_right _ (List.mem_of_getElem? (i := 78) (by decide +kernel))) (by decide +kernel)
theorem mb_239 : Cond.classLink RX6 50 "java/lang/IllegalStateException" ∈ sj_Big := sj_big (List.mem_append_right _ (List.mem_of_getElem? (i := 239) (by decide +kernel))) (by decide +kernel)
theorem mb_11 : Cond.initialized "java/lang/IllegalStateException" ∈ sj_Big := sj_big (List.mem_append_right _ (List.mem_of_getElem? (i := 11) (by decide +kernel))) (by decide +kernel)
theorem mb_104 : Cond.fieldLink RX6 17 "Spanjudge" "spans" "[LSpanjudge$Span;" ∈ sj_Big := sj_big (List.mem_append_right _ (List.mem_of_getElem? (i := 104) (by decide +kernel))) (by decide +kernel)
theorem mb_95 : Cond.fieldLinkNest RX6 103 "Spanjudge$Span" "to" "I" "Spanjudge" ∈ sj_Nws := sj_nws (List.mem_append_right _ (List.mem_of_getElem? (i := 95) (by decide +kernel))) (by decide +kernel)
theorem mb_93 : Cond.fieldLinkNest RX6 97 "Spanjudge$Span" "row" "I" "Spanjudge" ∈ sj_Nws := sj_nws (List.mem_append_right _ (List.mem_of_getElem? (i := 93) (by decide +kernel))) (by decide +kernel)
theorem mb_384 : Cond.fieldLink RX4 7 "Spanjudge$Word" "numbers" "[J" ∈ sj_Big := sj_big (List.mem_append_right _ (List.mem_of_getElem? (i := 384) (by decide +kernel))) (by decide +kernel)
theorem mb_385 : Cond.fieldLink RX4 13 "Spanjudge$Word" "from" "I" ∈ sj_Big := sj_big (List.mem_append_right _ (List.mem_of_getElem? (i := 385) (by decide +kernel))) (by decide +kernel)
theorem mb_386 : Cond.fieldLink RX4 17 "Spanjudge$Word" "to" "I" ∈ sj_Big := sj_big (List.mem_append_right _ (List.mem_of_getElem? (i := 386) (by decide +kernel))) (by decide +kernel)
theorem mb_383 : Cond.methodLink RX4 1 Lib.objectInit ∈ sj_Big := sj_big (List.mem_append_right _ (List.mem_of_getElem? (i := 383) (by decide +kernel))) (by decide +kernel)
theorem mb_22 : Cond.instanceMethod Lib.objectInit ∈ sj_Big := sj_big (List.mem_append_right _ (List.mem_of_getElem? (i := 22) (by decide +kernel))) (by decide +kernel)
theorem mb_23 : Cond.code Lib.objectInit ⟨#[0xb1]⟩ 1 none ∈ sj_Big := sj_big (List.mem_append_right _ (List.mem_of_getElem? (i := 23) (by decide +kernel))) (by decide +kernel)
theorem mb_378 : Cond.classLink RX6 124 RX4 ∈ sj_Big := sj_big (List.mem_append_right _ (List.mem_of_getElem? (i := 378) (by decide +kernel))) (by decide +kernel)
theorem mb_379 : Cond.instantiable RX4 3 ∈ sj_Big := sj_big (List.mem_append_right _ (List.mem_of_getElem? (i := 379) (by decide +kernel))) (by decide +kernel)
theorem mb_12 : Cond.initialized RX4 ∈ sj_Big := sj_big (List.mem_append_right _ (List.mem_of_getElem? (i := 12) (by decide +kernel))) (by decide +kernel)
theorem mb_94 : Cond.fieldLinkNest RX6 100 "Spanjudge$Span" "from" "I" "Spanjudge" ∈ sj_Nws := sj_nws (List.mem_append_right _ (List.mem_of_getElem? (i := 94) (by decide +kernel))) (by decide +kernel)
theorem mb_380 : Cond.methodLinkNest RX6 126 yX4_init "Spanjudge" ∈ sj_Nws := sj_nws (List.mem_append_right _ (List.mem_of_getElem? (i := 380) (by decide +kernel))) (by decide +kernel)
theorem mb_382 : Cond.code yX4_init cX4_init 4 none ∈ sj_Big := sj_big (List.mem_append_right _ (List.mem_of_getElem? (i := 382) (by decide +kernel))) (by decide +kernel)
theorem mb_381 : Cond.instanceMethod yX4_init ∈ sj_Big := sj_big (List.mem_append_right _ (List.mem_of_getElem? (i := 381) (by decide +kernel))) (by decide +kernel)
theorem mb_354 : Cond.methodLink RX6 108 yX6_isFitting ∈ sj_Big := sj_big (List.mem_append_right _ (List.mem_of_getElem? (i := 354) (by decide +kernel))) (by decide +kernel)
theorem mb_357 : Cond.code yX6_isFitting cX6_isFitting 3 (some .boolean) ∈ sj_Big := sj_big (List.mem_append_right _ (List.mem_of_getElem? (i := 357) (by decide +kernel))) (by decide +kernel)
theorem mb_356 : Cond.instanceMethod yX6_isFitting ∈ sj_Big := sj_big (List.mem_append_right _ (List.mem_of_getElem? (i := 356) (by decide +kernel))) (by decide +kernel)
theorem mb_s3 : Cond.selects yX6_isFitting.cls yX6_isFitting yX6_isFitting ∈ sj_Big := sj_big (List.mem_append_left _ (List.mem_of_getElem? (i := 3) (by decide +kernel))) (by decide +kernel)
theorem mb_374 : Cond.methodLink RX6 137 yX6_wordOf ∈ sj_Big := sj_big (List.mem_append_right _ (List.mem_of_getElem? (i := 374) (by decide +kernel))) (by decide +kernel)
theorem mb_377 : Cond.code yX6_wordOf cX6_wordOf 3 (some (.object "Spanjudge$Word")) ∈ sj_Big := sj_big (List.mem_append_right _ (List.mem_of_getElem? (i := 377) (by decide +kernel))) (by decide +kernel)
theorem mb_376 : Cond.instanceMethod yX6_wordOf ∈ sj_Big := sj_big (List.mem_append_right _ (List.mem_of_getElem? (i := 376) (by decide +kernel))) (by decide +kernel)
theorem mb_s5 : Cond.selects yX6_wordOf.cls yX6_wordOf yX6_wordOf ∈ sj_Big := sj_big (List.mem_append_left _ (List.mem_of_getElem? (i := 5) (by decide +kernel))) (by decide +kernel)
theorem mb_400 : Cond.methodLinkNest RX6 168 yX4_size "Spanjudge" ∈ sj_Nws := sj_nws (List.mem_append_right _ (List.mem_of_getElem? (i := 400) (by decide +kernel))) (by decide +kernel)
theorem mb_403 : Cond.code yX4_size cX4_size 1 (some .int) ∈ sj_Big := sj_big (List.mem_append_right _ (List.mem_of_getElem? (i := 403) (by decide +kernel))) (by decide +kernel)
theorem mb_402 : Cond.instanceMethod yX4_size ∈ sj_Big := sj_big (List.mem_append_right _ (List.mem_of_getElem? (i := 402) (by decide +kernel))) (by decide +kernel)
theorem mb_s6 : Cond.selects yX4_size.cls yX4_size yX4_size ∈ sj_Big := sj_big (List.mem_append_left _ (List.mem_of_getElem? (i := 6) (by decide +kernel))) (by decide +kernel)
theorem mb_410 : Cond.methodLinkNest RX6 261 yX4_at "Spanjudge" ∈ sj_Nws := sj_nws (List.mem_append_right _ (List.mem_of_getElem? (i := 410) (by decide +kernel))) (by decide +kernel)
theorem mb_413 : Cond.code yX4_at cX4_at 2 (some .long) ∈ sj_Big := sj_big (List.mem_append_right _ (List.mem_of_getElem? (i := 413) (by decide +kernel))) (by decide +kernel)
theorem mb_412 : Cond.instanceMethod yX4_at ∈ sj_Big := sj_big (List.mem_append_right _ (List.mem_of_getElem? (i := 412) (by decide +kernel))) (by decide +kernel)
theorem mb_s7 : Cond.selects yX4_at.cls yX4_at yX4_at ∈ sj_Big := sj_big (List.mem_append_left _ (List.mem_of_getElem? (i := 7) (by decide +kernel))) (by decide +kernel)
theorem mb_407 : Cond.methodLink RX6 256 Lib.Math.min.name ∈ sj_Big := sj_big (List.mem_append_right _ (List.mem_of_getElem? (i := 407) (by decide +kernel))) (by decide +kernel)
theorem mb_408 : Cond.static Lib.Math.min.name ∈ sj_Big := sj_big (List.mem_append_right _ (List.mem_of_getElem? (i := 408) (by decide +kernel))) (by decide +kernel)
theorem mb_13 : Cond.initialized RJ9 ∈ sj_Big := sj_big (List.mem_append_right _ (List.mem_of_getElem? (i := 13) (by decide +kernel))) (by decide +kernel)
theorem mb_409 : Cond.code Lib.Math.min.name Lib.Math.min.code 2 (some .int) ∈ sj_Big := sj_big (List.mem_append_right _ (List.mem_of_getElem? (i := 409) (by decide +kernel))) (by decide +kernel)
theorem mb_404 : Cond.methodLink RX6 129 yX6_alike ∈ sj_Big := sj_big (List.mem_append_right _ (List.mem_of_getElem? (i := 404) (by decide +kernel))) (by decide +kernel)
theorem mb_406 : Cond.code yX6_alike cX6_alike 4 (some .int) ∈ sj_Big := sj_big (List.mem_append_right _ (List.mem_of_getElem? (i := 406) (by decide +kernel))) (by decide +kernel)
theorem mb_405 : Cond.static yX6_alike ∈ sj_Big := sj_big (List.mem_append_right _ (List.mem_of_getElem? (i := 405) (by decide +kernel))) (by decide +kernel)
theorem mb_420 : Cond.constantLong RX6 252 (-9223372036854775808) ∈ sj_Big := sj_big (List.mem_append_right _ (List.mem_of_getElem? (i := 420) (by decide +kernel))) (by decide +kernel)
theorem mb_417 : Cond.methodLink RX6 265 yX6_compareNumbers ∈ sj_Big := sj_big (List.mem_append_right _ (List.mem_of_getElem? (i := 417) (by decide +kernel))) (by decide +kernel)
theorem mb_419 : Cond.code yX6_compareNumbers cX6_compareNumbers 9 (some .int) ∈ sj_Big := sj_big (List.mem_append_right _ (List.mem_of_getElem? (i := 419) (by decide +kernel))) (by decide +kernel)
theorem mb_418 : Cond.static yX6_compareNumbers ∈ sj_Big := sj_big (List.mem_append_right _ (List.mem_of_getElem? (i := 418) (by decide +kernel))) (by decide +kernel)
theorem mb_414 : Cond.methodLink RX6 140 yX6_compareWords ∈ sj_Big := sj_big (List.mem_append_right _ (List.mem_of_getElem? (i := 414) (by decide +kernel))) (by decide +kernel)
theorem mb_416 : Cond.code yX6_compareWords cX6_compareWords 4 (some .int) ∈ sj_Big := sj_big (List.mem_append_right _ (List.mem_of_getElem? (i := 416) (by decide +kernel))) (by decide +kernel)
theorem mb_415 : Cond.static yX6_compareWords ∈ sj_Big := sj_big (List.mem_append_right _ (List.mem_of_getElem? (i := 415) (by decide +kernel))) (by decide +kernel)
theorem mb_397 : Cond.methodLink RX6 243 yX6_isSame ∈ sj_Big := sj_big (List.mem_append_right _ (List.mem_of_getElem? (i := 397) (by decide +kernel))) (by decide +kernel)
theorem mb_399 : Cond.code yX6_isSame cX6_isSame 2 (some .boolean) ∈ sj_Big := sj_big (List.mem_append_right _ (List.mem_of_getElem? (i := 399) (by decide +kernel))) (by decide +kernel)
theorem mb_398 : Cond.static yX6_isSame ∈ sj_Big := sj_big (List.mem_append_right _ (List.mem_of_getElem? (i := 398) (by decide +kernel))) (by decide +kernel)
theorem mb_421 : Cond.methodLink RX6 269 yX6_mismatch ∈ sj_Big := sj_big (List.mem_append_right _ (List.mem_of_getElem? (i := 421) (by decide +kernel))) (by decide +kernel)
theorem mb_423 : Cond.code yX6_mismatch cX6_mismatch 3 (some .int) ∈ sj_Big := sj_big (List.mem_append_right _ (List.mem_of_getElem? (i := 423) (by decide +kernel))) (by decide +kernel)
theorem mb_422 : Cond.static yX6_mismatch ∈ sj_Big := sj_big (List.mem_append_right _ (List.mem_of_getElem? (i := 422) (by decide +kernel))) (by decide +kernel)
theorem mb_365 : Cond.methodLink RX6 112 yX6_wantQuestion ∈ sj_Big := sj_big (List.mem_append_right _ (List.mem_of_getElem? (i := 365) (by decide +kernel))) (by decide +kernel)
theorem mb_367 : Cond.code yX6_wantQuestion cX6_wantQuestion 1 none ∈ sj_Big := sj_big (List.mem_append_right _ (List.mem_of_getElem? (i := 367) (by decide +kernel))) (by decide +kernel)
theorem mb_366 : Cond.static yX6_wantQuestion ∈ sj_Big := sj_big (List.mem_append_right _ (List.mem_of_getElem? (i := 366) (by decide +kernel))) (by decide +kernel)
theorem mb_334 : Cond.methodLink RX6 89 yX6_spanOf ∈ sj_Big := sj_big (List.mem_append_right _ (List.mem_of_getElem? (i := 334) (by decide +kernel))) (by decide +kernel)
theorem mb_337 : Cond.code yX6_spanOf cX6_spanOf 2 (some (.object "Spanjudge$Span")) ∈ sj_Big := sj_big (List.mem_append_right _ (List.mem_of_getElem? (i := 337) (by decide +kernel))) (by decide +kernel)
theorem mb_336 : Cond.instanceMethod yX6_spanOf ∈ sj_Big := sj_big (List.mem_append_right _ (List.mem_of_getElem? (i := 336) (by decide +kernel))) (by decide +kernel)
theorem mb_s2 : Cond.selects yX6_spanOf.cls yX6_spanOf yX6_spanOf ∈ sj_Big := sj_big (List.mem_append_left _ (List.mem_of_getElem? (i := 2) (by decide +kernel))) (by decide +kernel)
theorem mb_369 : Cond.methodLink RX6 116 yX6_fittingWord ∈ sj_Big := sj_big (List.mem_append_right _ (List.mem_of_getElem? (i := 369) (by decide +kernel))) (by decide +kernel)
theorem mb_372 : Cond.code yX6_fittingWord cX6_fittingWord 3 (some (.object "Spanjudge$Word")) ∈ sj_Big := sj_big (List.mem_append_right _ (List.mem_of_getElem? (i := 372) (by decide +kernel))) (by decide +kernel)
theorem mb_371 : Cond.instanceMethod yX6_fittingWord ∈ sj_Big := sj_big (List.mem_append_right _ (List.mem_of_getElem? (i := 371) (by decide +kernel))) (by decide +kernel)
theorem mb_s4 : Cond.selects yX6_fittingWord.cls yX6_fittingWord yX6_fittingWord ∈ sj_Big := sj_big (List.mem_append_left _ (List.mem_of_getElem? (i := 4) (by decide +kernel))) (by decide +kernel)
theorem mb_394 : Cond.methodLink RX6 120 yX6_answer ∈ sj_Big := sj_big (List.mem_append_right _ (List.mem_of_getElem? (i := 394) (by decide +kernel))) (by decide +kernel)
theorem mb_396 : Cond.code yX6_answer cX6_answer 3 (some .int) ∈ sj_Big := sj_big (List.mem_append_right _ (List.mem_of_getElem? (i := 396) (by decide +kernel))) (by decide +kernel)
theorem mb_395 : Cond.static yX6_answer ∈ sj_Big := sj_big (List.mem_append_right _ (List.mem_of_getElem? (i := 395) (by decide +kernel))) (by decide +kernel)
theorem mb_325 : Cond.constantLong RX6 254 (2) ∈ sj_Big := sj_big (List.mem_append_right _ (List.mem_of_getElem? (i := 325) (by decide +kernel))) (by decide +kernel)
theorem mb_322 : Cond.methodLink RX6 85 yX6_changed ∈ sj_Big := sj_big (List.mem_append_right _ (List.mem_of_getElem? (i := 322) (by decide +kernel))) (by decide +kernel)
theorem mb_324 : Cond.code yX6_changed cX6_changed 4 (some .long) ∈ sj_Big := sj_big (List.mem_append_right _ (List.mem_of_getElem? (i := 324) (by decide +kernel))) (by decide +kernel)
theorem mb_323 : Cond.static yX6_changed ∈ sj_Big := sj_big (List.mem_append_right _ (List.mem_of_getElem? (i := 323) (by decide +kernel))) (by decide +kernel)
theorem mb_319 : Cond.methodLink RX6 79 yX6_canChange ∈ sj_Big := sj_big (List.mem_append_right _ (List.mem_of_getElem? (i := 319) (by decide +kernel))) (by decide +kernel)
theorem mb_321 : Cond.code yX6_canChange cX6_canChange 5 (some .boolean) ∈ sj_Big := sj_big (List.mem_append_right _ (List.mem_of_getElem? (i := 321) (by decide +kernel))) (by decide +kernel)
theorem mb_320 : Cond.static yX6_canChange ∈ sj_Big := sj_big (List.mem_append_right _ (List.mem_of_getElem? (i := 320) (by decide +kernel))) (by decide +kernel)
theorem mb_77 : Cond.fieldLinkNest RX0 30 "Spanjudge$Row" "numbers" "[J" "Spanjudge" ∈ sj_Nws := sj_nws (List.mem_append_right _ (List.mem_of_getElem? (i := 77) (by decide +kernel))) (by decide +kernel)
theorem mb_48 : Cond.fieldLink RX0 26 "Spanjudge$Endings" "numbers" "[J" ∈ sj_Big := sj_big (List.mem_append_right _ (List.mem_of_getElem? (i := 48) (by decide +kernel))) (by decide +kernel)
theorem mb_80 : Cond.fieldLinkNest RX0 33 "Spanjudge$Row" "size" "I" "Spanjudge" ∈ sj_Nws := sj_nws (List.mem_append_right _ (List.mem_of_getElem? (i := 80) (by decide +kernel))) (by decide +kernel)
theorem mb_50 : Cond.fieldLink RX0 37 "Spanjudge$Endings" "size" "I" ∈ sj_Big := sj_big (List.mem_append_right _ (List.mem_of_getElem? (i := 50) (by decide +kernel))) (by decide +kernel)
theorem mb_51 : Cond.fieldLink RX0 38 "Spanjudge$Endings" "unsigned" "Z" ∈ sj_Big := sj_big (List.mem_append_right _ (List.mem_of_getElem? (i := 51) (by decide +kernel))) (by decide +kernel)
theorem mb_36 : Cond.fieldLink RX0 11 "Spanjudge$Endings" "alikeAt" "[[I" ∈ sj_Big := sj_big (List.mem_append_right _ (List.mem_of_getElem? (i := 36) (by decide +kernel))) (by decide +kernel)
theorem mb_509 : Cond.methodLink RX0 54 Lib.Math.max.name ∈ sj_Big := sj_big (List.mem_append_right _ (List.mem_of_getElem? (i := 509) (by decide +kernel))) (by decide +kernel)
theorem mb_510 : Cond.static Lib.Math.max.name ∈ sj_Big := sj_big (List.mem_append_right _ (List.mem_of_getElem? (i := 510) (by decide +kernel))) (by decide +kernel)
theorem mb_511 : Cond.code Lib.Math.max.name Lib.Math.max.code 2 (some .int) ∈ sj_Big := sj_big (List.mem_append_right _ (List.mem_of_getElem? (i := 511) (by decide +kernel))) (by decide +kernel)
theorem mb_505 : Cond.methodLink RX0 50 yX0_mostAlikeAhead ∈ sj_Big := sj_big (List.mem_append_right _ (List.mem_of_getElem? (i := 505) (by decide +kernel))) (by decide +kernel)
theorem mb_508 : Cond.code yX0_mostAlikeAhead cX0_mostAlikeAhead 4 (some .int) ∈ sj_Big := sj_big (List.mem_append_right _ (List.mem_of_getElem? (i := 508) (by decide +kernel))) (by decide +kernel)
theorem mb_2 : Cond.initialized RX0 ∈ sj_Big := sj_big (List.mem_append_right _ (List.mem_of_getElem? (i := 2) (by decide +kernel))) (by decide +kernel)
theorem mb_507 : Cond.instanceMethod yX0_mostAlikeAhead ∈ sj_Big := sj_big (List.mem_append_right _ (List.mem_of_getElem? (i := 507) (by decide +kernel))) (by decide +kernel)
theorem mb_s13 : Cond.selects yX0_mostAlikeAhead.cls yX0_mostAlikeAhead yX0_mostAlikeAhead ∈ sj_Big := sj_big (List.mem_append_left _ (List.mem_of_getElem? (i := 13) (by decide +kernel))) (by decide +kernel)
theorem mb_106 : Cond.fieldLink RX6 28 "Spanjudge" "endings" "LSpanjudge$Endings;" ∈ sj_Big := sj_big (List.mem_append_right _ (List.mem_of_getElem? (i := 106) (by decide +kernel))) (by decide +kernel)
theorem mb_481 : Cond.methodLinkNest RX6 151 yX0_take "Spanjudge" ∈ sj_Nws := sj_nws (List.mem_append_right _ (List.mem_of_getElem? (i := 481) (by decide +kernel))) (by decide +kernel)
theorem mb_484 : Cond.code yX0_take cX0_take 6 none ∈ sj_Big := sj_big (List.mem_append_right _ (List.mem_of_getElem? (i := 484) (by decide +kernel))) (by decide +kernel)
theorem mb_483 : Cond.instanceMethod yX0_take ∈ sj_Big := sj_big (List.mem_append_right _ (List.mem_of_getElem? (i := 483) (by decide +kernel))) (by decide +kernel)
theorem mb_s9 : Cond.selects yX0_take.cls yX0_take yX0_take ∈ sj_Big := sj_big (List.mem_append_left _ (List.mem_of_getElem? (i := 9) (by decide +kernel))) (by decide +kernel)
theorem mb_501 : Cond.methodLinkNest RX6 161 yX0_countWords "Spanjudge" ∈ sj_Nws := sj_nws (List.mem_append_right _ (List.mem_of_getElem? (i := 501) (by decide +kernel))) (by decide +kernel)
theorem mb_504 : Cond.code yX0_countWords cX0_countWords 3 (some .int) ∈ sj_Big := sj_big (List.mem_append_right _ (List.mem_of_getElem? (i := 504) (by decide +kernel))) (by decide +kernel)
theorem mb_503 : Cond.instanceMethod yX0_countWords ∈ sj_Big := sj_big (List.mem_append_right _ (List.mem_of_getElem? (i := 503) (by decide +kernel))) (by decide +kernel)
theorem mb_s12 : Cond.selects yX0_countWords.cls yX0_countWords yX0_countWords ∈ sj_Big := sj_big (List.mem_append_left _ (List.mem_of_getElem? (i := 12) (by decide +kernel))) (by decide +kernel)
theorem mb_493 : Cond.methodLinkNest RX0 42 yX6_compareNumbers "Spanjudge" ∈ sj_Nws := sj_nws (List.mem_append_right _ (List.mem_of_getElem? (i := 493) (by decide +kernel))) (by decide +kernel)
theorem mb_39 : Cond.fieldLink RX0 19 "Spanjudge$Endings" "inOrder" "[I" ∈ sj_Big := sj_big (List.mem_append_right _ (List.mem_of_getElem? (i := 39) (by decide +kernel))) (by decide +kernel)
theorem mb_489 : Cond.methodLink RX0 46 yX0_compareParts ∈ sj_Big := sj_big (List.mem_append_right _ (List.mem_of_getElem? (i := 489) (by decide +kernel))) (by decide +kernel)
theorem mb_492 : Cond.code yX0_compareParts cX0_compareParts 8 (some .int) ∈ sj_Big := sj_big (List.mem_append_right _ (List.mem_of_getElem? (i := 492) (by decide +kernel))) (by decide +kernel)
theorem mb_491 : Cond.instanceMethod yX0_compareParts ∈ sj_Big := sj_big (List.mem_append_right _ (List.mem_of_getElem? (i := 491) (by decide +kernel))) (by decide +kernel)
theorem mb_s11 : Cond.selects yX0_compareParts.cls yX0_compareParts yX0_compareParts ∈ sj_Big := sj_big (List.mem_append_left _ (List.mem_of_getElem? (i := 11) (by decide +kernel))) (by decide +kernel)
theorem mb_452 : Cond.methodLink RX6 133 yX6_isUnsigned ∈ sj_Big := sj_big (List.mem_append_right _ (List.mem_of_getElem? (i := 452) (by decide +kernel))) (by decide +kernel)
theorem mb_454 : Cond.code yX6_isUnsigned cX6_isUnsigned 1 (some .boolean) ∈ sj_Big := sj_big (List.mem_append_right _ (List.mem_of_getElem? (i := 454) (by decide +kernel))) (by decide +kernel)
theorem mb_453 : Cond.static yX6_isUnsigned ∈ sj_Big := sj_big (List.mem_append_right _ (List.mem_of_getElem? (i := 453) (by decide +kernel))) (by decide +kernel)
theorem mb_262 : Cond.methodLink RX6 61 yX6_wantPlace ∈ sj_Big := sj_big (List.mem_append_right _ (List.mem_of_getElem? (i := 262) (by decide +kernel))) (by decide +kernel)
theorem mb_264 : Cond.code yX6_wantPlace cX6_wantPlace 2 none ∈ sj_Big := sj_big (List.mem_append_right _ (List.mem_of_getElem? (i := 264) (by decide +kernel))) (by decide +kernel)
theorem mb_263 : Cond.static yX6_wantPlace ∈ sj_Big := sj_big (List.mem_append_right _ (List.mem_of_getElem? (i := 263) (by decide +kernel))) (by decide +kernel)
theorem mb_485 : Cond.methodLinkNest RX6 155 yX0_putInOrder "Spanjudge" ∈ sj_Nws := sj_nws (List.mem_append_right _ (List.mem_of_getElem? (i := 485) (by decide +kernel))) (by decide +kernel)
theorem mb_488 : Cond.code yX0_putInOrder cX0_putInOrder 3 none ∈ sj_Big := sj_big (List.mem_append_right _ (List.mem_of_getElem? (i := 488) (by decide +kernel))) (by decide +kernel)
theorem mb_487 : Cond.instanceMethod yX0_putInOrder ∈ sj_Big := sj_big (List.mem_append_right _ (List.mem_of_getElem? (i := 487) (by decide +kernel))) (by decide +kernel)
theorem mb_s10 : Cond.selects yX0_putInOrder.cls yX0_putInOrder yX0_putInOrder ∈ sj_Big := sj_big (List.mem_append_left _ (List.mem_of_getElem? (i := 10) (by decide +kernel))) (by decide +kernel)
theorem mb_41 : Cond.fieldLinkNest RX6 158 "Spanjudge$Endings" "inOrder" "[I" "Spanjudge" ∈ sj_Nws := sj_nws (List.mem_append_right _ (List.mem_of_getElem? (i := 41) (by decide +kernel))) (by decide +kernel)
theorem mb_46 : Cond.fieldLink RX0 60 "Spanjudge$Endings" "factorCount" "I" ∈ sj_Big := sj_big (List.mem_append_right _ (List.mem_of_getElem? (i := 46) (by decide +kernel))) (by decide +kernel)
theorem mb_42 : Cond.fieldLink RX0 23 "Spanjudge$Endings" "factorBegins" "[I" ∈ sj_Big := sj_big (List.mem_append_right _ (List.mem_of_getElem? (i := 42) (by decide +kernel))) (by decide +kernel)
theorem mb_579 : Cond.methodLinkNest RX6 180 yX0_split "Spanjudge" ∈ sj_Nws := sj_nws (List.mem_append_right _ (List.mem_of_getElem? (i := 579) (by decide +kernel))) (by decide +kernel)
theorem mb_582 : Cond.code yX0_split cX0_split 3 none ∈ sj_Big := sj_big (List.mem_append_right _ (List.mem_of_getElem? (i := 582) (by decide +kernel))) (by decide +kernel)
theorem mb_581 : Cond.instanceMethod yX0_split ∈ sj_Big := sj_big (List.mem_append_right _ (List.mem_of_getElem? (i := 581) (by decide +kernel))) (by decide +kernel)
theorem mb_s18 : Cond.selects yX0_split.cls yX0_split yX0_split ∈ sj_Big := sj_big (List.mem_append_left _ (List.mem_of_getElem? (i := 18) (by decide +kernel))) (by decide +kernel)
theorem mb_47 : Cond.fieldLinkNest RX6 183 "Spanjudge$Endings" "factorCount" "I" "Spanjudge" ∈ sj_Nws := sj_nws (List.mem_append_right _ (List.mem_of_getElem? (i := 47) (by decide +kernel))) (by decide +kernel)
theorem mb_44 : Cond.fieldLinkNest RX6 186 "Spanjudge$Endings" "factorBegins" "[I" "Spanjudge" ∈ sj_Nws := sj_nws (List.mem_append_right _ (List.mem_of_getElem? (i := 44) (by decide +kernel))) (by decide +kernel)
theorem mb_79 : Cond.fieldLink RX1 15 "Spanjudge$Row" "size" "I" ∈ sj_Big := sj_big (List.mem_append_right _ (List.mem_of_getElem? (i := 79) (by decide +kernel))) (by decide +kernel)
theorem mb_76 : Cond.fieldLink RX1 9 "Spanjudge$Row" "numbers" "[J" ∈ sj_Big := sj_big (List.mem_append_right _ (List.mem_of_getElem? (i := 76) (by decide +kernel))) (by decide +kernel)
theorem mb_538 : Cond.methodLinkNest RX6 172 yX1_hasPeriod "Spanjudge" ∈ sj_Nws := sj_nws (List.mem_append_right _ (List.mem_of_getElem? (i := 538) (by decide +kernel))) (by decide +kernel)
theorem mb_541 : Cond.code yX1_hasPeriod cX1_hasPeriod 3 (some .boolean) ∈ sj_Big := sj_big (List.mem_append_right _ (List.mem_of_getElem? (i := 541) (by decide +kernel))) (by decide +kernel)
theorem mb_3 : Cond.initialized RX1 ∈ sj_Big := sj_big (List.mem_append_right _ (List.mem_of_getElem? (i := 3) (by decide +kernel))) (by decide +kernel)
theorem mb_540 : Cond.instanceMethod yX1_hasPeriod ∈ sj_Big := sj_big (List.mem_append_right _ (List.mem_of_getElem? (i := 540) (by decide +kernel))) (by decide +kernel)
theorem mb_s15 : Cond.selects yX1_hasPeriod.cls yX1_hasPeriod yX1_hasPeriod ∈ sj_Big := sj_big (List.mem_append_left _ (List.mem_of_getElem? (i := 15) (by decide +kernel))) (by decide +kernel)
theorem mb_633 : Cond.methodLink RX4 20 yX4_size ∈ sj_Big := sj_big (List.mem_append_right _ (List.mem_of_getElem? (i := 633) (by decide +kernel))) (by decide +kernel)
theorem mb_70 : Cond.arrayClass .long ∈ sj_Big := sj_big (List.mem_append_right _ (List.mem_of_getElem? (i := 70) (by decide +kernel))) (by decide +kernel)
theorem mb_634 : Cond.methodLink RX4 24 yX4_at ∈ sj_Big := sj_big (List.mem_append_right _ (List.mem_of_getElem? (i := 634) (by decide +kernel))) (by decide +kernel)
theorem mb_635 : Cond.methodLinkNest RX4 28 yX6_changed "Spanjudge" ∈ sj_Nws := sj_nws (List.mem_append_right _ (List.mem_of_getElem? (i := 635) (by decide +kernel))) (by decide +kernel)
theorem mb_636 : Cond.classLink RX4 8 RX4 ∈ sj_Big := sj_big (List.mem_append_right _ (List.mem_of_getElem? (i := 636) (by decide +kernel))) (by decide +kernel)
theorem mb_637 : Cond.methodLink RX4 34 yX4_init ∈ sj_Big := sj_big (List.mem_append_right _ (List.mem_of_getElem? (i := 637) (by decide +kernel))) (by decide +kernel)
theorem mb_628 : Cond.classLink RX5 31 RX4 ∈ sj_Big := sj_big (List.mem_append_right _ (List.mem_of_getElem? (i := 628) (by decide +kernel))) (by decide +kernel)
theorem mb_629 : Cond.methodLinkNest RX5 33 yX4_changedBy "Spanjudge" ∈ sj_Nws := sj_nws (List.mem_append_right _ (List.mem_of_getElem? (i := 629) (by decide +kernel))) (by decide +kernel)
theorem mb_632 : Cond.code yX4_changedBy cX4_changedBy 5 (some (.object "Spanjudge$Word")) ∈ sj_Big := sj_big (List.mem_append_right _ (List.mem_of_getElem? (i := 632) (by decide +kernel))) (by decide +kernel)
theorem mb_631 : Cond.instanceMethod yX4_changedBy ∈ sj_Big := sj_big (List.mem_append_right _ (List.mem_of_getElem? (i := 631) (by decide +kernel))) (by decide +kernel)
theorem mb_s21 : Cond.selects yX4_changedBy.cls yX4_changedBy yX4_changedBy ∈ sj_Big := sj_big (List.mem_append_left _ (List.mem_of_getElem? (i := 21) (by decide +kernel))) (by decide +kernel)
theorem mb_641 : Cond.methodLinkNest RX5 37 yX6_mismatch "Spanjudge" ∈ sj_Nws := sj_nws (List.mem_append_right _ (List.mem_of_getElem? (i := 641) (by decide +kernel))) (by decide +kernel)
theorem mb_642 : Cond.methodLinkNest RX5 41 yX4_size "Spanjudge" ∈ sj_Nws := sj_nws (List.mem_append_right _ (List.mem_of_getElem? (i := 642) (by decide +kernel))) (by decide +kernel)
theorem mb_643 : Cond.methodLinkNest RX5 45 yX4_at "Spanjudge" ∈ sj_Nws := sj_nws (List.mem_append_right _ (List.mem_of_getElem? (i := 643) (by decide +kernel))) (by decide +kernel)
theorem mb_644 : Cond.methodLinkNest RX5 49 yX6_isSame "Spanjudge" ∈ sj_Nws := sj_nws (List.mem_append_right _ (List.mem_of_getElem? (i := 644) (by decide +kernel))) (by decide +kernel)
theorem mb_645 : Cond.methodLinkNest RX5 52 yX6_compareWords "Spanjudge" ∈ sj_Nws := sj_nws (List.mem_append_right _ (List.mem_of_getElem? (i := 645) (by decide +kernel))) (by decide +kernel)
theorem mb_649 : Cond.methodLinkNest RX5 56 yX6_alike "Spanjudge" ∈ sj_Nws := sj_nws (List.mem_append_right _ (List.mem_of_getElem? (i := 649) (by decide +kernel))) (by decide +kernel)
theorem mb_650 : Cond.methodLinkNest RX5 59 yX6_compareNumbers "Spanjudge" ∈ sj_Nws := sj_nws (List.mem_append_right _ (List.mem_of_getElem? (i := 650) (by decide +kernel))) (by decide +kernel)
theorem mb_660 : Cond.methodLink RX5 67 Lib.Math.min.name ∈ sj_Big := sj_big (List.mem_append_right _ (List.mem_of_getElem? (i := 660) (by decide +kernel))) (by decide +kernel)
theorem mb_657 : Cond.methodLink RX5 63 yX5_chainIsTrue ∈ sj_Big := sj_big (List.mem_append_right _ (List.mem_of_getElem? (i := 657) (by decide +kernel))) (by decide +kernel)
theorem mb_659 : Cond.code yX5_chainIsTrue cX5_chainIsTrue 7 (some .boolean) ∈ sj_Big := sj_big (List.mem_append_right _ (List.mem_of_getElem? (i := 659) (by decide +kernel))) (by decide +kernel)
theorem mb_14 : Cond.initialized RX5 ∈ sj_Big := sj_big (List.mem_append_right _ (List.mem_of_getElem? (i := 14) (by decide +kernel))) (by decide +kernel)
theorem mb_658 : Cond.static yX5_chainIsTrue ∈ sj_Big := sj_big (List.mem_append_right _ (List.mem_of_getElem? (i := 658) (by decide +kernel))) (by decide +kernel)
theorem mb_625 : Cond.methodLink RX5 9 yX5_changedWords ∈ sj_Big := sj_big (List.mem_append_right _ (List.mem_of_getElem? (i := 625) (by decide +kernel))) (by decide +kernel)
theorem mb_627 : Cond.code yX5_changedWords cX5_changedWords 5 (some (.array (.object "Spanjudge$Word"))) ∈ sj_Big := sj_big (List.mem_append_right _ (List.mem_of_getElem? (i := 627) (by decide +kernel))) (by decide +kernel)
theorem mb_626 : Cond.static yX5_changedWords ∈ sj_Big := sj_big (List.mem_append_right _ (List.mem_of_getElem? (i := 626) (by decide +kernel))) (by decide +kernel)
theorem mb_638 : Cond.methodLink RX5 15 yX5_alikeIsTrue ∈ sj_Big := sj_big (List.mem_append_right _ (List.mem_of_getElem? (i := 638) (by decide +kernel))) (by decide +kernel)
theorem mb_640 : Cond.code yX5_alikeIsTrue cX5_alikeIsTrue 7 (some .boolean) ∈ sj_Big := sj_big (List.mem_append_right _ (List.mem_of_getElem? (i := 640) (by decide +kernel))) (by decide +kernel)
theorem mb_639 : Cond.static yX5_alikeIsTrue ∈ sj_Big := sj_big (List.mem_append_right _ (List.mem_of_getElem? (i := 639) (by decide +kernel))) (by decide +kernel)
theorem mb_646 : Cond.methodLink RX5 19 yX5_orderIsTrue ∈ sj_Big := sj_big (List.mem_append_right _ (List.mem_of_getElem? (i := 646) (by decide +kernel))) (by decide +kernel)
theorem mb_648 : Cond.code yX5_orderIsTrue cX5_orderIsTrue 7 (some .boolean) ∈ sj_Big := sj_big (List.mem_append_right _ (List.mem_of_getElem? (i := 648) (by decide +kernel))) (by decide +kernel)
theorem mb_647 : Cond.static yX5_orderIsTrue ∈ sj_Big := sj_big (List.mem_append_right _ (List.mem_of_getElem? (i := 647) (by decide +kernel))) (by decide +kernel)
theorem mb_651 : Cond.methodLink RX5 23 yX5_isUnsignedOf ∈ sj_Big := sj_big (List.mem_append_right _ (List.mem_of_getElem? (i := 651) (by decide +kernel))) (by decide +kernel)
theorem mb_653 : Cond.code yX5_isUnsignedOf cX5_isUnsignedOf 4 (some .boolean) ∈ sj_Big := sj_big (List.mem_append_right _ (List.mem_of_getElem? (i := 653) (by decide +kernel))) (by decide +kernel)
theorem mb_652 : Cond.static yX5_isUnsignedOf ∈ sj_Big := sj_big (List.mem_append_right _ (List.mem_of_getElem? (i := 652) (by decide +kernel))) (by decide +kernel)
theorem mb_654 : Cond.methodLink RX5 27 yX5_threeAreTrue ∈ sj_Big := sj_big (List.mem_append_right _ (List.mem_of_getElem? (i := 654) (by decide +kernel))) (by decide +kernel)
theorem mb_656 : Cond.code yX5_threeAreTrue cX5_threeAreTrue 6 (some .boolean) ∈ sj_Big := sj_big (List.mem_append_right _ (List.mem_of_getElem? (i := 656) (by decide +kernel))) (by decide +kernel)
theorem mb_655 : Cond.static yX5_threeAreTrue ∈ sj_Big := sj_big (List.mem_append_right _ (List.mem_of_getElem? (i := 655) (by decide +kernel))) (by decide +kernel)
theorem mb_622 : Cond.methodLinkNest RX6 204 yX5_holds "Spanjudge" ∈ sj_Nws := sj_nws (List.mem_append_right _ (List.mem_of_getElem? (i := 622) (by decide +kernel))) (by decide +kernel)
theorem mb_624 : Cond.code yX5_holds cX5_holds 7 (some .boolean) ∈ sj_Big := sj_big (List.mem_append_right _ (List.mem_of_getElem? (i := 624) (by decide +kernel))) (by decide +kernel)
theorem mb_623 : Cond.static yX5_holds ∈ sj_Big := sj_big (List.mem_append_right _ (List.mem_of_getElem? (i := 623) (by decide +kernel))) (by decide +kernel)
theorem mb_519 : Cond.methodLinkNest RX6 165 yX0_longestTwice "Spanjudge" ∈ sj_Nws := sj_nws (List.mem_append_right _ (List.mem_of_getElem? (i := 519) (by decide +kernel))) (by decide +kernel)
theorem mb_522 : Cond.code yX0_longestTwice cX0_longestTwice 3 (some .int) ∈ sj_Big := sj_big (List.mem_append_right _ (List.mem_of_getElem? (i := 522) (by decide +kernel))) (by decide +kernel)
theorem mb_521 : Cond.instanceMethod yX0_longestTwice ∈ sj_Big := sj_big (List.mem_append_right _ (List.mem_of_getElem? (i := 521) (by decide +kernel))) (by decide +kernel)
theorem mb_s14 : Cond.selects yX0_longestTwice.cls yX0_longestTwice yX0_longestTwice ∈ sj_Big := sj_big (List.mem_append_left _ (List.mem_of_getElem? (i := 14) (by decide +kernel))) (by decide +kernel)
theorem mb_613 : Cond.constantDouble RX6 198 4616189618054758400 ∈ sj_Big := sj_big (List.mem_append_right _ (List.mem_of_getElem? (i := 613) (by decide +kernel))) (by decide +kernel)
theorem mb_567 : Cond.methodLink RX1 19 yX1_atRound ∈ sj_Big := sj_big (List.mem_append_right _ (List.mem_of_getElem? (i := 567) (by decide +kernel))) (by decide +kernel)
theorem mb_570 : Cond.code yX1_atRound cX1_atRound 2 (some .long) ∈ sj_Big := sj_big (List.mem_append_right _ (List.mem_of_getElem? (i := 570) (by decide +kernel))) (by decide +kernel)
theorem mb_569 : Cond.instanceMethod yX1_atRound ∈ sj_Big := sj_big (List.mem_append_right _ (List.mem_of_getElem? (i := 569) (by decide +kernel))) (by decide +kernel)
theorem mb_s17 : Cond.selects yX1_atRound.cls yX1_atRound yX1_atRound ∈ sj_Big := sj_big (List.mem_append_left _ (List.mem_of_getElem? (i := 17) (by decide +kernel))) (by decide +kernel)
theorem mb_571 : Cond.methodLinkNest RX1 23 yX6_compareNumbers "Spanjudge" ∈ sj_Nws := sj_nws (List.mem_append_right _ (List.mem_of_getElem? (i := 571) (by decide +kernel))) (by decide +kernel)
theorem mb_563 : Cond.methodLinkNest RX6 176 yX1_compareRotations "Spanjudge" ∈ sj_Nws := sj_nws (List.mem_append_right _ (List.mem_of_getElem? (i := 563) (by decide +kernel))) (by decide +kernel)
theorem mb_566 : Cond.code yX1_compareRotations cX1_compareRotations 6 (some .int) ∈ sj_Big := sj_big (List.mem_append_right _ (List.mem_of_getElem? (i := 566) (by decide +kernel))) (by decide +kernel)
theorem mb_565 : Cond.instanceMethod yX1_compareRotations ∈ sj_Big := sj_big (List.mem_append_right _ (List.mem_of_getElem? (i := 565) (by decide +kernel))) (by decide +kernel)
theorem mb_s16 : Cond.selects yX1_compareRotations.cls yX1_compareRotations yX1_compareRotations ∈ sj_Big := sj_big (List.mem_append_left _ (List.mem_of_getElem? (i := 16) (by decide +kernel))) (by decide +kernel)
theorem mb_49 : Cond.fieldLinkNest RX2 7 "Spanjudge$Endings" "size" "I" "Spanjudge" ∈ sj_Nws := sj_nws (List.mem_append_right _ (List.mem_of_getElem? (i := 49) (by decide +kernel))) (by decide +kernel)
theorem mb_37 : Cond.fieldLinkNest RX2 13 "Spanjudge$Endings" "alikeAt" "[[I" "Spanjudge" ∈ sj_Nws := sj_nws (List.mem_append_right _ (List.mem_of_getElem? (i := 37) (by decide +kernel))) (by decide +kernel)
theorem mb_40 : Cond.fieldLinkNest RX2 17 "Spanjudge$Endings" "inOrder" "[I" "Spanjudge" ∈ sj_Nws := sj_nws (List.mem_append_right _ (List.mem_of_getElem? (i := 40) (by decide +kernel))) (by decide +kernel)
theorem mb_671 : Cond.methodLinkNest RX2 21 yX0_countWords "Spanjudge" ∈ sj_Nws := sj_nws (List.mem_append_right _ (List.mem_of_getElem? (i := 671) (by decide +kernel))) (by decide +kernel)
theorem mb_683 : Cond.methodLink RX2 46 Lib.Math.min.name ∈ sj_Big := sj_big (List.mem_append_right _ (List.mem_of_getElem? (i := 683) (by decide +kernel))) (by decide +kernel)
theorem mb_680 : Cond.methodLink RX2 42 yX2_greatestDivisor ∈ sj_Big := sj_big (List.mem_append_right _ (List.mem_of_getElem? (i := 680) (by decide +kernel))) (by decide +kernel)
theorem mb_682 : Cond.code yX2_greatestDivisor cX2_greatestDivisor 3 (some .int) ∈ sj_Big := sj_big (List.mem_append_right _ (List.mem_of_getElem? (i := 682) (by decide +kernel))) (by decide +kernel)
theorem mb_15 : Cond.initialized RX2 ∈ sj_Big := sj_big (List.mem_append_right _ (List.mem_of_getElem? (i := 15) (by decide +kernel))) (by decide +kernel)
theorem mb_681 : Cond.static yX2_greatestDivisor ∈ sj_Big := sj_big (List.mem_append_right _ (List.mem_of_getElem? (i := 681) (by decide +kernel))) (by decide +kernel)
theorem mb_82 : Cond.fieldLinkNest RX2 25 "Spanjudge$Row" "size" "I" "Spanjudge" ∈ sj_Nws := sj_nws (List.mem_append_right _ (List.mem_of_getElem? (i := 82) (by decide +kernel))) (by decide +kernel)
theorem mb_676 : Cond.methodLinkNest RX2 32 yX1_hasPeriod "Spanjudge" ∈ sj_Nws := sj_nws (List.mem_append_right _ (List.mem_of_getElem? (i := 676) (by decide +kernel))) (by decide +kernel)
theorem mb_675 : Cond.methodLinkNest RX2 28 yX0_compareParts "Spanjudge" ∈ sj_Nws := sj_nws (List.mem_append_right _ (List.mem_of_getElem? (i := 675) (by decide +kernel))) (by decide +kernel)
theorem mb_677 : Cond.methodLink RX2 36 yX2_divisorIsTrue ∈ sj_Big := sj_big (List.mem_append_right _ (List.mem_of_getElem? (i := 677) (by decide +kernel))) (by decide +kernel)
theorem mb_679 : Cond.code yX2_divisorIsTrue cX2_divisorIsTrue 4 (some .boolean) ∈ sj_Big := sj_big (List.mem_append_right _ (List.mem_of_getElem? (i := 679) (by decide +kernel))) (by decide +kernel)
theorem mb_678 : Cond.static yX2_divisorIsTrue ∈ sj_Big := sj_big (List.mem_append_right _ (List.mem_of_getElem? (i := 678) (by decide +kernel))) (by decide +kernel)
theorem mb_38 : Cond.fieldLink RX0 16 "Spanjudge$Endings" "ways" "[[I" ∈ sj_Big := sj_big (List.mem_append_right _ (List.mem_of_getElem? (i := 38) (by decide +kernel))) (by decide +kernel)
theorem mb_699 : Cond.methodLink RX0 63 yX0_isLyndon ∈ sj_Big := sj_big (List.mem_append_right _ (List.mem_of_getElem? (i := 699) (by decide +kernel))) (by decide +kernel)
theorem mb_694 : Cond.code yX0_isLyndon cX0_isLyndon 4 (some .boolean) ∈ sj_Big := sj_big (List.mem_append_right _ (List.mem_of_getElem? (i := 694) (by decide +kernel))) (by decide +kernel)
theorem mb_693 : Cond.instanceMethod yX0_isLyndon ∈ sj_Big := sj_big (List.mem_append_right _ (List.mem_of_getElem? (i := 693) (by decide +kernel))) (by decide +kernel)
theorem mb_s23 : Cond.selects yX0_isLyndon.cls yX0_isLyndon yX0_isLyndon ∈ sj_Big := sj_big (List.mem_append_left _ (List.mem_of_getElem? (i := 23) (by decide +kernel))) (by decide +kernel)
theorem mb_700 : Cond.methodLink RX0 67 yX0_waysBehind ∈ sj_Big := sj_big (List.mem_append_right _ (List.mem_of_getElem? (i := 700) (by decide +kernel))) (by decide +kernel)
theorem mb_703 : Cond.code yX0_waysBehind cX0_waysBehind 5 (some .int) ∈ sj_Big := sj_big (List.mem_append_right _ (List.mem_of_getElem? (i := 703) (by decide +kernel))) (by decide +kernel)
theorem mb_702 : Cond.instanceMethod yX0_waysBehind ∈ sj_Big := sj_big (List.mem_append_right _ (List.mem_of_getElem? (i := 702) (by decide +kernel))) (by decide +kernel)
theorem mb_s25 : Cond.selects yX0_waysBehind.cls yX0_waysBehind yX0_waysBehind ∈ sj_Big := sj_big (List.mem_append_left _ (List.mem_of_getElem? (i := 25) (by decide +kernel))) (by decide +kernel)
theorem mb_45 : Cond.fieldLinkNest RX2 51 "Spanjudge$Endings" "factorCount" "I" "Spanjudge" ∈ sj_Nws := sj_nws (List.mem_append_right _ (List.mem_of_getElem? (i := 45) (by decide +kernel))) (by decide +kernel)
theorem mb_43 : Cond.fieldLinkNest RX2 54 "Spanjudge$Endings" "factorBegins" "[I" "Spanjudge" ∈ sj_Nws := sj_nws (List.mem_append_right _ (List.mem_of_getElem? (i := 43) (by decide +kernel))) (by decide +kernel)
theorem mb_687 : Cond.methodLinkNest RX2 57 yX0_factorEnd "Spanjudge" ∈ sj_Nws := sj_nws (List.mem_append_right _ (List.mem_of_getElem? (i := 687) (by decide +kernel))) (by decide +kernel)
theorem mb_690 : Cond.code yX0_factorEnd cX0_factorEnd 2 (some .int) ∈ sj_Big := sj_big (List.mem_append_right _ (List.mem_of_getElem? (i := 690) (by decide +kernel))) (by decide +kernel)
theorem mb_689 : Cond.instanceMethod yX0_factorEnd ∈ sj_Big := sj_big (List.mem_append_right _ (List.mem_of_getElem? (i := 689) (by decide +kernel))) (by decide +kernel)
theorem mb_s22 : Cond.selects yX0_factorEnd.cls yX0_factorEnd yX0_factorEnd ∈ sj_Big := sj_big (List.mem_append_left _ (List.mem_of_getElem? (i := 22) (by decide +kernel))) (by decide +kernel)
theorem mb_691 : Cond.methodLinkNest RX2 61 yX0_isLyndon "Spanjudge" ∈ sj_Nws := sj_nws (List.mem_append_right _ (List.mem_of_getElem? (i := 691) (by decide +kernel))) (by decide +kernel)
theorem mb_695 : Cond.methodLinkNest RX2 65 yX0_countWays "Spanjudge" ∈ sj_Nws := sj_nws (List.mem_append_right _ (List.mem_of_getElem? (i := 695) (by decide +kernel))) (by decide +kernel)
theorem mb_698 : Cond.code yX0_countWays cX0_countWays 3 (some .int) ∈ sj_Big := sj_big (List.mem_append_right _ (List.mem_of_getElem? (i := 698) (by decide +kernel))) (by decide +kernel)
theorem mb_697 : Cond.instanceMethod yX0_countWays ∈ sj_Big := sj_big (List.mem_append_right _ (List.mem_of_getElem? (i := 697) (by decide +kernel))) (by decide +kernel)
theorem mb_s24 : Cond.selects yX0_countWays.cls yX0_countWays yX0_countWays ∈ sj_Big := sj_big (List.mem_append_left _ (List.mem_of_getElem? (i := 24) (by decide +kernel))) (by decide +kernel)
theorem mb_668 : Cond.methodLinkNest RX6 210 yX2_countIsTrue "Spanjudge" ∈ sj_Nws := sj_nws (List.mem_append_right _ (List.mem_of_getElem? (i := 668) (by decide +kernel))) (by decide +kernel)
theorem mb_670 : Cond.code yX2_countIsTrue cX2_countIsTrue 3 (some .boolean) ∈ sj_Big := sj_big (List.mem_append_right _ (List.mem_of_getElem? (i := 670) (by decide +kernel))) (by decide +kernel)
theorem mb_669 : Cond.static yX2_countIsTrue ∈ sj_Big := sj_big (List.mem_append_right _ (List.mem_of_getElem? (i := 669) (by decide +kernel))) (by decide +kernel)
theorem mb_672 : Cond.methodLinkNest RX6 216 yX2_periodsAreTrue "Spanjudge" ∈ sj_Nws := sj_nws (List.mem_append_right _ (List.mem_of_getElem? (i := 672) (by decide +kernel))) (by decide +kernel)
theorem mb_674 : Cond.code yX2_periodsAreTrue cX2_periodsAreTrue 6 (some .boolean) ∈ sj_Big := sj_big (List.mem_append_right _ (List.mem_of_getElem? (i := 674) (by decide +kernel))) (by decide +kernel)
theorem mb_673 : Cond.static yX2_periodsAreTrue ∈ sj_Big := sj_big (List.mem_append_right _ (List.mem_of_getElem? (i := 673) (by decide +kernel))) (by decide +kernel)
theorem mb_684 : Cond.methodLinkNest RX6 220 yX2_factorsAreTrue "Spanjudge" ∈ sj_Nws := sj_nws (List.mem_append_right _ (List.mem_of_getElem? (i := 684) (by decide +kernel))) (by decide +kernel)
theorem mb_686 : Cond.code yX2_factorsAreTrue cX2_factorsAreTrue 5 (some .boolean) ∈ sj_Big := sj_big (List.mem_append_right _ (List.mem_of_getElem? (i := 686) (by decide +kernel))) (by decide +kernel)
theorem mb_685 : Cond.static yX2_factorsAreTrue ∈ sj_Big := sj_big (List.mem_append_right _ (List.mem_of_getElem? (i := 685) (by decide +kernel))) (by decide +kernel)
theorem mb_597 : Cond.methodLink RX6 189 yX6_fittingAhead ∈ sj_Big := sj_big (List.mem_append_right _ (List.mem_of_getElem? (i := 597) (by decide +kernel))) (by decide +kernel)
theorem mb_600 : Cond.code yX6_fittingAhead cX6_fittingAhead 5 (some .int) ∈ sj_Big := sj_big (List.mem_append_right _ (List.mem_of_getElem? (i := 600) (by decide +kernel))) (by decide +kernel)
theorem mb_599 : Cond.instanceMethod yX6_fittingAhead ∈ sj_Big := sj_big (List.mem_append_right _ (List.mem_of_getElem? (i := 599) (by decide +kernel))) (by decide +kernel)
theorem mb_s19 : Cond.selects yX6_fittingAhead.cls yX6_fittingAhead yX6_fittingAhead ∈ sj_Big := sj_big (List.mem_append_left _ (List.mem_of_getElem? (i := 19) (by decide +kernel))) (by decide +kernel)
theorem mb_601 : Cond.methodLink RX6 193 yX6_sameAhead ∈ sj_Big := sj_big (List.mem_append_right _ (List.mem_of_getElem? (i := 601) (by decide +kernel))) (by decide +kernel)
theorem mb_604 : Cond.code yX6_sameAhead cX6_sameAhead 6 (some .int) ∈ sj_Big := sj_big (List.mem_append_right _ (List.mem_of_getElem? (i := 604) (by decide +kernel))) (by decide +kernel)
theorem mb_603 : Cond.instanceMethod yX6_sameAhead ∈ sj_Big := sj_big (List.mem_append_right _ (List.mem_of_getElem? (i := 603) (by decide +kernel))) (by decide +kernel)
theorem mb_s20 : Cond.selects yX6_sameAhead.cls yX6_sameAhead yX6_sameAhead ∈ sj_Big := sj_big (List.mem_append_left _ (List.mem_of_getElem? (i := 20) (by decide +kernel))) (by decide +kernel)
theorem mb_107 : Cond.fieldLink RX6 144 "Spanjudge" "listSize" "I" ∈ sj_Big := sj_big (List.mem_append_right _ (List.mem_of_getElem? (i := 107) (by decide +kernel))) (by decide +kernel)
theorem mb_105 : Cond.fieldLink RX6 21 "Spanjudge" "list" "[I" ∈ sj_Big := sj_big (List.mem_append_right _ (List.mem_of_getElem? (i := 105) (by decide +kernel))) (by decide +kernel)
theorem mb_463 : Cond.methodLink RX6 147 yX6_putIntoList ∈ sj_Big := sj_big (List.mem_append_right _ (List.mem_of_getElem? (i := 463) (by decide +kernel))) (by decide +kernel)
theorem mb_466 : Cond.code yX6_putIntoList cX6_putIntoList 6 none ∈ sj_Big := sj_big (List.mem_append_right _ (List.mem_of_getElem? (i := 466) (by decide +kernel))) (by decide +kernel)
theorem mb_465 : Cond.instanceMethod yX6_putIntoList ∈ sj_Big := sj_big (List.mem_append_right _ (List.mem_of_getElem? (i := 465) (by decide +kernel))) (by decide +kernel)
theorem mb_s8 : Cond.selects yX6_putIntoList.cls yX6_putIntoList yX6_putIntoList ∈ sj_Big := sj_big (List.mem_append_left _ (List.mem_of_getElem? (i := 8) (by decide +kernel))) (by decide +kernel)
theorem mb_multi : Cond.classLink RX0 9 ("[" ++ (FieldType.array .int).toString) ∈ sj_Big := sj_big (List.mem_append_right _ (List.mem_of_getElem? (i := 34) (by decide +kernel))) (by decide +kernel)
theorem mb_69 : Cond.arrayClass .int ∈ sj_Big := sj_big (List.mem_append_right _ (List.mem_of_getElem? (i := 69) (by decide +kernel))) (by decide +kernel)
theorem mb_33 : Cond.methodLink RX0 3 Lib.objectInit ∈ sj_Big := sj_big (List.mem_append_right _ (List.mem_of_getElem? (i := 33) (by decide +kernel))) (by decide +kernel)
theorem mb_75 : Cond.methodLink RX1 3 Lib.objectInit ∈ sj_Big := sj_big (List.mem_append_right _ (List.mem_of_getElem? (i := 75) (by decide +kernel))) (by decide +kernel)
theorem mb_92 : Cond.methodLink RX3 1 Lib.objectInit ∈ sj_Big := sj_big (List.mem_append_right _ (List.mem_of_getElem? (i := 92) (by decide +kernel))) (by decide +kernel)
theorem mb_123 : Cond.constantLong RX6 200 (7) ∈ sj_Big := sj_big (List.mem_append_right _ (List.mem_of_getElem? (i := 123) (by decide +kernel))) (by decide +kernel)
theorem mb_124 : Cond.constantLong RX6 202 (31) ∈ sj_Big := sj_big (List.mem_append_right _ (List.mem_of_getElem? (i := 124) (by decide +kernel))) (by decide +kernel)
theorem mb_24 : Cond.classLink RX6 9 RX1 ∈ sj_Big := sj_big (List.mem_append_right _ (List.mem_of_getElem? (i := 24) (by decide +kernel))) (by decide +kernel)
theorem mb_26 : Cond.classLink RX6 15 RX3 ∈ sj_Big := sj_big (List.mem_append_right _ (List.mem_of_getElem? (i := 26) (by decide +kernel))) (by decide +kernel)
theorem mb_28 : Cond.classLink RX6 25 RX0 ∈ sj_Big := sj_big (List.mem_append_right _ (List.mem_of_getElem? (i := 28) (by decide +kernel))) (by decide +kernel)
theorem mb_29 : Cond.instantiable RX0 8 ∈ sj_Big := sj_big (List.mem_append_right _ (List.mem_of_getElem? (i := 29) (by decide +kernel))) (by decide +kernel)
theorem mb_30 : Cond.methodLinkNest RX6 27 yX0_init "Spanjudge" ∈ sj_Nws := sj_nws (List.mem_append_right _ (List.mem_of_getElem? (i := 30) (by decide +kernel))) (by decide +kernel)
theorem mb_32 : Cond.code yX0_init cX0_init 1 none ∈ sj_Big := sj_big (List.mem_append_right _ (List.mem_of_getElem? (i := 32) (by decide +kernel))) (by decide +kernel)
theorem mb_31 : Cond.instanceMethod yX0_init ∈ sj_Big := sj_big (List.mem_append_right _ (List.mem_of_getElem? (i := 31) (by decide +kernel))) (by decide +kernel)
theorem mb_71 : Cond.instantiable RX1 2 ∈ sj_Big := sj_big (List.mem_append_right _ (List.mem_of_getElem? (i := 71) (by decide +kernel))) (by decide +kernel)
theorem mb_72 : Cond.methodLinkNest RX6 32 yX1_init "Spanjudge" ∈ sj_Nws := sj_nws (List.mem_append_right _ (List.mem_of_getElem? (i := 72) (by decide +kernel))) (by decide +kernel)
theorem mb_74 : Cond.code yX1_init cX1_init 1 none ∈ sj_Big := sj_big (List.mem_append_right _ (List.mem_of_getElem? (i := 74) (by decide +kernel))) (by decide +kernel)
theorem mb_73 : Cond.instanceMethod yX1_init ∈ sj_Big := sj_big (List.mem_append_right _ (List.mem_of_getElem? (i := 73) (by decide +kernel))) (by decide +kernel)
theorem mb_88 : Cond.instantiable RX3 3 ∈ sj_Big := sj_big (List.mem_append_right _ (List.mem_of_getElem? (i := 88) (by decide +kernel))) (by decide +kernel)
theorem mb_4 : Cond.initialized RX3 ∈ sj_Big := sj_big (List.mem_append_right _ (List.mem_of_getElem? (i := 4) (by decide +kernel))) (by decide +kernel)
theorem mb_89 : Cond.methodLinkNest RX6 33 yX3_init "Spanjudge" ∈ sj_Nws := sj_nws (List.mem_append_right _ (List.mem_of_getElem? (i := 89) (by decide +kernel))) (by decide +kernel)
theorem mb_91 : Cond.code yX3_init cX3_init 1 none ∈ sj_Big := sj_big (List.mem_append_right _ (List.mem_of_getElem? (i := 91) (by decide +kernel))) (by decide +kernel)
theorem mb_90 : Cond.instanceMethod yX3_init ∈ sj_Big := sj_big (List.mem_append_right _ (List.mem_of_getElem? (i := 90) (by decide +kernel))) (by decide +kernel)
theorem mb_21 : Cond.methodLink RX6 1 Lib.objectInit ∈ sj_Big := sj_big (List.mem_append_right _ (List.mem_of_getElem? (i := 21) (by decide +kernel))) (by decide +kernel)
theorem mb_746 : Cond.methodLink RX7 33 yX7_kindOf ∈ sj_Big := sj_big (List.mem_append_right _ (List.mem_of_getElem? (i := 746) (by decide +kernel))) (by decide +kernel)
theorem mb_748 : Cond.code yX7_kindOf cX7_kindOf 1 (some .int) ∈ sj_Big := sj_big (List.mem_append_right _ (List.mem_of_getElem? (i := 748) (by decide +kernel))) (by decide +kernel)
theorem mb_5 : Cond.initialized RX7 ∈ sj_Big := sj_big (List.mem_append_right _ (List.mem_of_getElem? (i := 5) (by decide +kernel))) (by decide +kernel)
theorem mb_747 : Cond.static yX7_kindOf ∈ sj_Big := sj_big (List.mem_append_right _ (List.mem_of_getElem? (i := 747) (by decide +kernel))) (by decide +kernel)
theorem mb_710 : Cond.fieldLink RX7 7 "SpanjudgeModel" "of" "[J" ∈ sj_Big := sj_big (List.mem_append_right _ (List.mem_of_getElem? (i := 710) (by decide +kernel))) (by decide +kernel)
theorem mb_773 : Cond.methodLink RX7 76 yX7_at ∈ sj_Big := sj_big (List.mem_append_right _ (List.mem_of_getElem? (i := 773) (by decide +kernel))) (by decide +kernel)
theorem mb_776 : Cond.code yX7_at cX7_at 4 (some .int) ∈ sj_Big := sj_big (List.mem_append_right _ (List.mem_of_getElem? (i := 776) (by decide +kernel))) (by decide +kernel)
theorem mb_775 : Cond.instanceMethod yX7_at ∈ sj_Big := sj_big (List.mem_append_right _ (List.mem_of_getElem? (i := 775) (by decide +kernel))) (by decide +kernel)
theorem mb_s28 : Cond.selects yX7_at.cls yX7_at yX7_at ∈ sj_Big := sj_big (List.mem_append_left _ (List.mem_of_getElem? (i := 28) (by decide +kernel))) (by decide +kernel)
theorem mb_870 : Cond.methodLink RX7 114 yX7_alike ∈ sj_Big := sj_big (List.mem_append_right _ (List.mem_of_getElem? (i := 870) (by decide +kernel))) (by decide +kernel)
theorem mb_873 : Cond.code yX7_alike cX7_alike 9 (some .int) ∈ sj_Big := sj_big (List.mem_append_right _ (List.mem_of_getElem? (i := 873) (by decide +kernel))) (by decide +kernel)
theorem mb_872 : Cond.instanceMethod yX7_alike ∈ sj_Big := sj_big (List.mem_append_right _ (List.mem_of_getElem? (i := 872) (by decide +kernel))) (by decide +kernel)
theorem mb_s36 : Cond.selects yX7_alike.cls yX7_alike yX7_alike ∈ sj_Big := sj_big (List.mem_append_left _ (List.mem_of_getElem? (i := 36) (by decide +kernel))) (by decide +kernel)
theorem mb_874 : Cond.methodLink RX7 118 yX7_isLess ∈ sj_Big := sj_big (List.mem_append_right _ (List.mem_of_getElem? (i := 874) (by decide +kernel))) (by decide +kernel)
theorem mb_876 : Cond.code yX7_isLess cX7_isLess 5 (some .boolean) ∈ sj_Big := sj_big (List.mem_append_right _ (List.mem_of_getElem? (i := 876) (by decide +kernel))) (by decide +kernel)
theorem mb_875 : Cond.static yX7_isLess ∈ sj_Big := sj_big (List.mem_append_right _ (List.mem_of_getElem? (i := 875) (by decide +kernel))) (by decide +kernel)
theorem mb_866 : Cond.methodLink RX7 122 yX7_compared ∈ sj_Big := sj_big (List.mem_append_right _ (List.mem_of_getElem? (i := 866) (by decide +kernel))) (by decide +kernel)
theorem mb_869 : Cond.code yX7_compared cX7_compared 10 (some .int) ∈ sj_Big := sj_big (List.mem_append_right _ (List.mem_of_getElem? (i := 869) (by decide +kernel))) (by decide +kernel)
theorem mb_868 : Cond.instanceMethod yX7_compared ∈ sj_Big := sj_big (List.mem_append_right _ (List.mem_of_getElem? (i := 868) (by decide +kernel))) (by decide +kernel)
theorem mb_s35 : Cond.selects yX7_compared.cls yX7_compared yX7_compared ∈ sj_Big := sj_big (List.mem_append_left _ (List.mem_of_getElem? (i := 35) (by decide +kernel))) (by decide +kernel)
theorem mb_759 : Cond.constantLong RX7 53 (-128) ∈ sj_Big := sj_big (List.mem_append_right _ (List.mem_of_getElem? (i := 759) (by decide +kernel))) (by decide +kernel)
theorem mb_760 : Cond.constantLong RX7 55 (127) ∈ sj_Big := sj_big (List.mem_append_right _ (List.mem_of_getElem? (i := 760) (by decide +kernel))) (by decide +kernel)
theorem mb_754 : Cond.methodLink RX7 39 yX7_in ∈ sj_Big := sj_big (List.mem_append_right _ (List.mem_of_getElem? (i := 754) (by decide +kernel))) (by decide +kernel)
theorem mb_756 : Cond.code yX7_in cX7_in 6 (some .boolean) ∈ sj_Big := sj_big (List.mem_append_right _ (List.mem_of_getElem? (i := 756) (by decide +kernel))) (by decide +kernel)
theorem mb_755 : Cond.static yX7_in ∈ sj_Big := sj_big (List.mem_append_right _ (List.mem_of_getElem? (i := 755) (by decide +kernel))) (by decide +kernel)
theorem mb_757 : Cond.constantLong RX7 49 (-32768) ∈ sj_Big := sj_big (List.mem_append_right _ (List.mem_of_getElem? (i := 757) (by decide +kernel))) (by decide +kernel)
theorem mb_758 : Cond.constantLong RX7 51 (32767) ∈ sj_Big := sj_big (List.mem_append_right _ (List.mem_of_getElem? (i := 758) (by decide +kernel))) (by decide +kernel)
theorem mb_752 : Cond.constantLong RX7 45 (-2147483648) ∈ sj_Big := sj_big (List.mem_append_right _ (List.mem_of_getElem? (i := 752) (by decide +kernel))) (by decide +kernel)
theorem mb_753 : Cond.constantLong RX7 47 (2147483647) ∈ sj_Big := sj_big (List.mem_append_right _ (List.mem_of_getElem? (i := 753) (by decide +kernel))) (by decide +kernel)
theorem mb_764 : Cond.constantLong RX7 37 (3) ∈ sj_Big := sj_big (List.mem_append_right _ (List.mem_of_getElem? (i := 764) (by decide +kernel))) (by decide +kernel)
theorem mb_711 : Cond.fieldLink RX7 13 "SpanjudgeModel" "length" "[I" ∈ sj_Big := sj_big (List.mem_append_right _ (List.mem_of_getElem? (i := 711) (by decide +kernel))) (by decide +kernel)
theorem mb_717 : Cond.fieldLink RX7 29 "SpanjudgeModel" "code" "I" ∈ sj_Big := sj_big (List.mem_append_right _ (List.mem_of_getElem? (i := 717) (by decide +kernel))) (by decide +kernel)
theorem mb_743 : Cond.methodLink RX7 57 yX7_isKind ∈ sj_Big := sj_big (List.mem_append_right _ (List.mem_of_getElem? (i := 743) (by decide +kernel))) (by decide +kernel)
theorem mb_745 : Cond.code yX7_isKind cX7_isKind 1 (some .boolean) ∈ sj_Big := sj_big (List.mem_append_right _ (List.mem_of_getElem? (i := 745) (by decide +kernel))) (by decide +kernel)
theorem mb_744 : Cond.static yX7_isKind ∈ sj_Big := sj_big (List.mem_append_right _ (List.mem_of_getElem? (i := 744) (by decide +kernel))) (by decide +kernel)
theorem mb_749 : Cond.methodLink RX7 65 yX7_isOf ∈ sj_Big := sj_big (List.mem_append_right _ (List.mem_of_getElem? (i := 749) (by decide +kernel))) (by decide +kernel)
theorem mb_751 : Cond.code yX7_isOf cX7_isOf 3 (some .boolean) ∈ sj_Big := sj_big (List.mem_append_right _ (List.mem_of_getElem? (i := 751) (by decide +kernel))) (by decide +kernel)
theorem mb_750 : Cond.static yX7_isOf ∈ sj_Big := sj_big (List.mem_append_right _ (List.mem_of_getElem? (i := 750) (by decide +kernel))) (by decide +kernel)
theorem mb_761 : Cond.methodLink RX7 61 yX7_isRow ∈ sj_Big := sj_big (List.mem_append_right _ (List.mem_of_getElem? (i := 761) (by decide +kernel))) (by decide +kernel)
theorem mb_763 : Cond.code yX7_isRow cX7_isRow 1 (some .boolean) ∈ sj_Big := sj_big (List.mem_append_right _ (List.mem_of_getElem? (i := 763) (by decide +kernel))) (by decide +kernel)
theorem mb_762 : Cond.static yX7_isRow ∈ sj_Big := sj_big (List.mem_append_right _ (List.mem_of_getElem? (i := 762) (by decide +kernel))) (by decide +kernel)
theorem mb_765 : Cond.methodLink RX7 69 yX7_size ∈ sj_Big := sj_big (List.mem_append_right _ (List.mem_of_getElem? (i := 765) (by decide +kernel))) (by decide +kernel)
theorem mb_768 : Cond.code yX7_size cX7_size 3 (some .int) ∈ sj_Big := sj_big (List.mem_append_right _ (List.mem_of_getElem? (i := 768) (by decide +kernel))) (by decide +kernel)
theorem mb_767 : Cond.instanceMethod yX7_size ∈ sj_Big := sj_big (List.mem_append_right _ (List.mem_of_getElem? (i := 767) (by decide +kernel))) (by decide +kernel)
theorem mb_s26 : Cond.selects yX7_size.cls yX7_size yX7_size ∈ sj_Big := sj_big (List.mem_append_left _ (List.mem_of_getElem? (i := 26) (by decide +kernel))) (by decide +kernel)
theorem mb_769 : Cond.methodLink RX7 73 yX7_fails ∈ sj_Big := sj_big (List.mem_append_right _ (List.mem_of_getElem? (i := 769) (by decide +kernel))) (by decide +kernel)
theorem mb_772 : Cond.code yX7_fails cX7_fails 2 (some .boolean) ∈ sj_Big := sj_big (List.mem_append_right _ (List.mem_of_getElem? (i := 772) (by decide +kernel))) (by decide +kernel)
theorem mb_771 : Cond.instanceMethod yX7_fails ∈ sj_Big := sj_big (List.mem_append_right _ (List.mem_of_getElem? (i := 771) (by decide +kernel))) (by decide +kernel)
theorem mb_s27 : Cond.selects yX7_fails.cls yX7_fails yX7_fails ∈ sj_Big := sj_big (List.mem_append_left _ (List.mem_of_getElem? (i := 27) (by decide +kernel))) (by decide +kernel)
theorem mb_777 : Cond.methodLink RX7 80 yX7_resize ∈ sj_Big := sj_big (List.mem_append_right _ (List.mem_of_getElem? (i := 777) (by decide +kernel))) (by decide +kernel)
theorem mb_780 : Cond.code yX7_resize cX7_resize 4 none ∈ sj_Big := sj_big (List.mem_append_right _ (List.mem_of_getElem? (i := 780) (by decide +kernel))) (by decide +kernel)
theorem mb_779 : Cond.instanceMethod yX7_resize ∈ sj_Big := sj_big (List.mem_append_right _ (List.mem_of_getElem? (i := 779) (by decide +kernel))) (by decide +kernel)
theorem mb_s29 : Cond.selects yX7_resize.cls yX7_resize yX7_resize ∈ sj_Big := sj_big (List.mem_append_left _ (List.mem_of_getElem? (i := 29) (by decide +kernel))) (by decide +kernel)
theorem mb_833 : Cond.constantLong RX7 43 (11) ∈ sj_Big := sj_big (List.mem_append_right _ (List.mem_of_getElem? (i := 833) (by decide +kernel))) (by decide +kernel)
theorem mb_714 : Cond.fieldLink RX7 23 "SpanjudgeModel" "spanTo" "[I" ∈ sj_Big := sj_big (List.mem_append_right _ (List.mem_of_getElem? (i := 714) (by decide +kernel))) (by decide +kernel)
theorem mb_712 : Cond.fieldLink RX7 17 "SpanjudgeModel" "spanRow" "[I" ∈ sj_Big := sj_big (List.mem_append_right _ (List.mem_of_getElem? (i := 712) (by decide +kernel))) (by decide +kernel)
theorem mb_830 : Cond.methodLink RX7 105 yX7_isSpan ∈ sj_Big := sj_big (List.mem_append_right _ (List.mem_of_getElem? (i := 830) (by decide +kernel))) (by decide +kernel)
theorem mb_832 : Cond.code yX7_isSpan cX7_isSpan 1 (some .boolean) ∈ sj_Big := sj_big (List.mem_append_right _ (List.mem_of_getElem? (i := 832) (by decide +kernel))) (by decide +kernel)
theorem mb_831 : Cond.static yX7_isSpan ∈ sj_Big := sj_big (List.mem_append_right _ (List.mem_of_getElem? (i := 831) (by decide +kernel))) (by decide +kernel)
theorem mb_843 : Cond.methodLink RX7 110 yX7_isFit ∈ sj_Big := sj_big (List.mem_append_right _ (List.mem_of_getElem? (i := 843) (by decide +kernel))) (by decide +kernel)
theorem mb_846 : Cond.code yX7_isFit cX7_isFit 3 (some .boolean) ∈ sj_Big := sj_big (List.mem_append_right _ (List.mem_of_getElem? (i := 846) (by decide +kernel))) (by decide +kernel)
theorem mb_845 : Cond.instanceMethod yX7_isFit ∈ sj_Big := sj_big (List.mem_append_right _ (List.mem_of_getElem? (i := 845) (by decide +kernel))) (by decide +kernel)
theorem mb_s31 : Cond.selects yX7_isFit.cls yX7_isFit yX7_isFit ∈ sj_Big := sj_big (List.mem_append_left _ (List.mem_of_getElem? (i := 31) (by decide +kernel))) (by decide +kernel)
theorem mb_713 : Cond.fieldLink RX7 20 "SpanjudgeModel" "spanFrom" "[I" ∈ sj_Big := sj_big (List.mem_append_right _ (List.mem_of_getElem? (i := 713) (by decide +kernel))) (by decide +kernel)
theorem mb_851 : Cond.methodLink RX7 126 yX7_isAsk ∈ sj_Big := sj_big (List.mem_append_right _ (List.mem_of_getElem? (i := 851) (by decide +kernel))) (by decide +kernel)
theorem mb_853 : Cond.code yX7_isAsk cX7_isAsk 1 (some .boolean) ∈ sj_Big := sj_big (List.mem_append_right _ (List.mem_of_getElem? (i := 853) (by decide +kernel))) (by decide +kernel)
theorem mb_852 : Cond.static yX7_isAsk ∈ sj_Big := sj_big (List.mem_append_right _ (List.mem_of_getElem? (i := 852) (by decide +kernel))) (by decide +kernel)
theorem mb_854 : Cond.methodLink RX7 129 yX7_noWords ∈ sj_Big := sj_big (List.mem_append_right _ (List.mem_of_getElem? (i := 854) (by decide +kernel))) (by decide +kernel)
theorem mb_857 : Cond.code yX7_noWords cX7_noWords 5 (some .int) ∈ sj_Big := sj_big (List.mem_append_right _ (List.mem_of_getElem? (i := 857) (by decide +kernel))) (by decide +kernel)
theorem mb_856 : Cond.instanceMethod yX7_noWords ∈ sj_Big := sj_big (List.mem_append_right _ (List.mem_of_getElem? (i := 856) (by decide +kernel))) (by decide +kernel)
theorem mb_s32 : Cond.selects yX7_noWords.cls yX7_noWords yX7_noWords ∈ sj_Big := sj_big (List.mem_append_left _ (List.mem_of_getElem? (i := 32) (by decide +kernel))) (by decide +kernel)
theorem mb_858 : Cond.methodLink RX7 133 yX7_many ∈ sj_Big := sj_big (List.mem_append_right _ (List.mem_of_getElem? (i := 858) (by decide +kernel))) (by decide +kernel)
theorem mb_861 : Cond.code yX7_many cX7_many 2 (some .int) ∈ sj_Big := sj_big (List.mem_append_right _ (List.mem_of_getElem? (i := 861) (by decide +kernel))) (by decide +kernel)
theorem mb_860 : Cond.instanceMethod yX7_many ∈ sj_Big := sj_big (List.mem_append_right _ (List.mem_of_getElem? (i := 860) (by decide +kernel))) (by decide +kernel)
theorem mb_s33 : Cond.selects yX7_many.cls yX7_many yX7_many ∈ sj_Big := sj_big (List.mem_append_left _ (List.mem_of_getElem? (i := 33) (by decide +kernel))) (by decide +kernel)
theorem mb_862 : Cond.methodLink RX7 137 yX7_answer ∈ sj_Big := sj_big (List.mem_append_right _ (List.mem_of_getElem? (i := 862) (by decide +kernel))) (by decide +kernel)
theorem mb_865 : Cond.code yX7_answer cX7_answer 11 (some .int) ∈ sj_Big := sj_big (List.mem_append_right _ (List.mem_of_getElem? (i := 865) (by decide +kernel))) (by decide +kernel)
theorem mb_864 : Cond.instanceMethod yX7_answer ∈ sj_Big := sj_big (List.mem_append_right _ (List.mem_of_getElem? (i := 864) (by decide +kernel))) (by decide +kernel)
theorem mb_s34 : Cond.selects yX7_answer.cls yX7_answer yX7_answer ∈ sj_Big := sj_big (List.mem_append_left _ (List.mem_of_getElem? (i := 34) (by decide +kernel))) (by decide +kernel)
theorem mb_985 : Cond.constantLong RX7 174 (7) ∈ sj_Big := sj_big (List.mem_append_right _ (List.mem_of_getElem? (i := 985) (by decide +kernel))) (by decide +kernel)
theorem mb_986 : Cond.constantLong RX7 176 (31) ∈ sj_Big := sj_big (List.mem_append_right _ (List.mem_of_getElem? (i := 986) (by decide +kernel))) (by decide +kernel)
theorem mb_716 : Cond.fieldLink RX7 147 "SpanjudgeModel" "listed" "I" ∈ sj_Big := sj_big (List.mem_append_right _ (List.mem_of_getElem? (i := 716) (by decide +kernel))) (by decide +kernel)
theorem mb_715 : Cond.fieldLink RX7 26 "SpanjudgeModel" "list" "[I" ∈ sj_Big := sj_big (List.mem_append_right _ (List.mem_of_getElem? (i := 715) (by decide +kernel))) (by decide +kernel)
theorem mb_793 : Cond.methodLink RX7 84 yX7_noRow ∈ sj_Big := sj_big (List.mem_append_right _ (List.mem_of_getElem? (i := 793) (by decide +kernel))) (by decide +kernel)
theorem mb_796 : Cond.code yX7_noRow cX7_noRow 3 (some .int) ∈ sj_Big := sj_big (List.mem_append_right _ (List.mem_of_getElem? (i := 796) (by decide +kernel))) (by decide +kernel)
theorem mb_795 : Cond.instanceMethod yX7_noRow ∈ sj_Big := sj_big (List.mem_append_right _ (List.mem_of_getElem? (i := 795) (by decide +kernel))) (by decide +kernel)
theorem mb_s30 : Cond.selects yX7_noRow.cls yX7_noRow yX7_noRow ∈ sj_Big := sj_big (List.mem_append_left _ (List.mem_of_getElem? (i := 30) (by decide +kernel))) (by decide +kernel)
theorem mb_825 : Cond.constantLong RX7 93 (2147483648) ∈ sj_Big := sj_big (List.mem_append_right _ (List.mem_of_getElem? (i := 825) (by decide +kernel))) (by decide +kernel)
theorem mb_824 : Cond.constantLong RX7 91 (32768) ∈ sj_Big := sj_big (List.mem_append_right _ (List.mem_of_getElem? (i := 824) (by decide +kernel))) (by decide +kernel)
theorem mb_823 : Cond.constantLong RX7 89 (128) ∈ sj_Big := sj_big (List.mem_append_right _ (List.mem_of_getElem? (i := 823) (by decide +kernel))) (by decide +kernel)
theorem mb_819 : Cond.constantLong RX7 99 (2) ∈ sj_Big := sj_big (List.mem_append_right _ (List.mem_of_getElem? (i := 819) (by decide +kernel))) (by decide +kernel)
theorem mb_820 : Cond.methodLink RX7 101 yX7_half ∈ sj_Big := sj_big (List.mem_append_right _ (List.mem_of_getElem? (i := 820) (by decide +kernel))) (by decide +kernel)
theorem mb_822 : Cond.code yX7_half cX7_half 1 (some .long) ∈ sj_Big := sj_big (List.mem_append_right _ (List.mem_of_getElem? (i := 822) (by decide +kernel))) (by decide +kernel)
theorem mb_821 : Cond.static yX7_half ∈ sj_Big := sj_big (List.mem_append_right _ (List.mem_of_getElem? (i := 821) (by decide +kernel))) (by decide +kernel)
theorem mb_818 : Cond.constantLong RX7 97 (9223372036854775807) ∈ sj_Big := sj_big (List.mem_append_right _ (List.mem_of_getElem? (i := 818) (by decide +kernel))) (by decide +kernel)
theorem mb_893 : Cond.methodLink RX7 140 yX7_isOrder ∈ sj_Big := sj_big (List.mem_append_right _ (List.mem_of_getElem? (i := 893) (by decide +kernel))) (by decide +kernel)
theorem mb_895 : Cond.code yX7_isOrder cX7_isOrder 1 (some .boolean) ∈ sj_Big := sj_big (List.mem_append_right _ (List.mem_of_getElem? (i := 895) (by decide +kernel))) (by decide +kernel)
theorem mb_894 : Cond.static yX7_isOrder ∈ sj_Big := sj_big (List.mem_append_right _ (List.mem_of_getElem? (i := 894) (by decide +kernel))) (by decide +kernel)
theorem mb_912 : Cond.methodLink RX7 150 yX7_noOrder ∈ sj_Big := sj_big (List.mem_append_right _ (List.mem_of_getElem? (i := 912) (by decide +kernel))) (by decide +kernel)
theorem mb_915 : Cond.code yX7_noOrder cX7_noOrder 4 (some .int) ∈ sj_Big := sj_big (List.mem_append_right _ (List.mem_of_getElem? (i := 915) (by decide +kernel))) (by decide +kernel)
theorem mb_914 : Cond.instanceMethod yX7_noOrder ∈ sj_Big := sj_big (List.mem_append_right _ (List.mem_of_getElem? (i := 914) (by decide +kernel))) (by decide +kernel)
theorem mb_s38 : Cond.selects yX7_noOrder.cls yX7_noOrder yX7_noOrder ∈ sj_Big := sj_big (List.mem_append_left _ (List.mem_of_getElem? (i := 38) (by decide +kernel))) (by decide +kernel)
theorem mb_916 : Cond.methodLink RX7 154 yX7_endings ∈ sj_Big := sj_big (List.mem_append_right _ (List.mem_of_getElem? (i := 916) (by decide +kernel))) (by decide +kernel)
theorem mb_919 : Cond.code yX7_endings cX7_endings 7 (some .int) ∈ sj_Big := sj_big (List.mem_append_right _ (List.mem_of_getElem? (i := 919) (by decide +kernel))) (by decide +kernel)
theorem mb_918 : Cond.instanceMethod yX7_endings ∈ sj_Big := sj_big (List.mem_append_right _ (List.mem_of_getElem? (i := 918) (by decide +kernel))) (by decide +kernel)
theorem mb_s39 : Cond.selects yX7_endings.cls yX7_endings yX7_endings ∈ sj_Big := sj_big (List.mem_append_left _ (List.mem_of_getElem? (i := 39) (by decide +kernel))) (by decide +kernel)
theorem mb_964 : Cond.methodLink RX7 166 yX7_lastOf ∈ sj_Big := sj_big (List.mem_append_right _ (List.mem_of_getElem? (i := 964) (by decide +kernel))) (by decide +kernel)
theorem mb_967 : Cond.code yX7_lastOf cX7_lastOf 7 (some .int) ∈ sj_Big := sj_big (List.mem_append_right _ (List.mem_of_getElem? (i := 967) (by decide +kernel))) (by decide +kernel)
theorem mb_966 : Cond.instanceMethod yX7_lastOf ∈ sj_Big := sj_big (List.mem_append_right _ (List.mem_of_getElem? (i := 966) (by decide +kernel))) (by decide +kernel)
theorem mb_s43 : Cond.selects yX7_lastOf.cls yX7_lastOf yX7_lastOf ∈ sj_Big := sj_big (List.mem_append_left _ (List.mem_of_getElem? (i := 43) (by decide +kernel))) (by decide +kernel)
theorem mb_960 : Cond.methodLink RX7 169 yX7_words ∈ sj_Big := sj_big (List.mem_append_right _ (List.mem_of_getElem? (i := 960) (by decide +kernel))) (by decide +kernel)
theorem mb_963 : Cond.code yX7_words cX7_words 6 (some .int) ∈ sj_Big := sj_big (List.mem_append_right _ (List.mem_of_getElem? (i := 963) (by decide +kernel))) (by decide +kernel)
theorem mb_962 : Cond.instanceMethod yX7_words ∈ sj_Big := sj_big (List.mem_append_right _ (List.mem_of_getElem? (i := 962) (by decide +kernel))) (by decide +kernel)
theorem mb_s42 : Cond.selects yX7_words.cls yX7_words yX7_words ∈ sj_Big := sj_big (List.mem_append_left _ (List.mem_of_getElem? (i := 42) (by decide +kernel))) (by decide +kernel)
theorem mb_709 : Cond.methodLink RX7 1 Lib.objectInit ∈ sj_Big := sj_big (List.mem_append_right _ (List.mem_of_getElem? (i := 709) (by decide +kernel))) (by decide +kernel)
theorem mb_936 : Cond.methodLink RX7 158 yX7_is ∈ sj_Big := sj_big (List.mem_append_right _ (List.mem_of_getElem? (i := 936) (by decide +kernel))) (by decide +kernel)
theorem mb_939 : Cond.code yX7_is cX7_is 6 (some .boolean) ∈ sj_Big := sj_big (List.mem_append_right _ (List.mem_of_getElem? (i := 939) (by decide +kernel))) (by decide +kernel)
theorem mb_938 : Cond.instanceMethod yX7_is ∈ sj_Big := sj_big (List.mem_append_right _ (List.mem_of_getElem? (i := 938) (by decide +kernel))) (by decide +kernel)
theorem mb_s40 : Cond.selects yX7_is.cls yX7_is yX7_is ∈ sj_Big := sj_big (List.mem_append_left _ (List.mem_of_getElem? (i := 40) (by decide +kernel))) (by decide +kernel)
theorem mb_980 : Cond.constantDouble RX7 172 4616189618054758400 ∈ sj_Big := sj_big (List.mem_append_right _ (List.mem_of_getElem? (i := 980) (by decide +kernel))) (by decide +kernel)
theorem mb_896 : Cond.methodLink RX7 143 yX7_spans ∈ sj_Big := sj_big (List.mem_append_right _ (List.mem_of_getElem? (i := 896) (by decide +kernel))) (by decide +kernel)
theorem mb_899 : Cond.code yX7_spans cX7_spans 5 (some .int) ∈ sj_Big := sj_big (List.mem_append_right _ (List.mem_of_getElem? (i := 899) (by decide +kernel))) (by decide +kernel)
theorem mb_898 : Cond.instanceMethod yX7_spans ∈ sj_Big := sj_big (List.mem_append_right _ (List.mem_of_getElem? (i := 898) (by decide +kernel))) (by decide +kernel)
theorem mb_s37 : Cond.selects yX7_spans.cls yX7_spans yX7_spans ∈ sj_Big := sj_big (List.mem_append_left _ (List.mem_of_getElem? (i := 37) (by decide +kernel))) (by decide +kernel)
theorem mb_805 : Cond.constantLong RX7 87 (8) ∈ sj_Big := sj_big (List.mem_append_right _ (List.mem_of_getElem? (i := 805) (by decide +kernel))) (by decide +kernel)
theorem mb_952 : Cond.methodLink RX7 162 yX7_isTurnedLess ∈ sj_Big := sj_big (List.mem_append_right _ (List.mem_of_getElem? (i := 952) (by decide +kernel))) (by decide +kernel)
theorem mb_955 : Cond.code yX7_isTurnedLess cX7_isTurnedLess 12 (some .boolean) ∈ sj_Big := sj_big (List.mem_append_right _ (List.mem_of_getElem? (i := 955) (by decide +kernel))) (by decide +kernel)
theorem mb_954 : Cond.instanceMethod yX7_isTurnedLess ∈ sj_Big := sj_big (List.mem_append_right _ (List.mem_of_getElem? (i := 954) (by decide +kernel))) (by decide +kernel)
theorem mb_s41 : Cond.selects yX7_isTurnedLess.cls yX7_isTurnedLess yX7_isTurnedLess ∈ sj_Big := sj_big (List.mem_append_left _ (List.mem_of_getElem? (i := 41) (by decide +kernel))) (by decide +kernel)
theorem mb_834 : Cond.constantLong RX7 108 (32) ∈ sj_Big := sj_big (List.mem_append_right _ (List.mem_of_getElem? (i := 834) (by decide +kernel))) (by decide +kernel)
end
section
def sj_lp0 (b : (sj_W → Prop) → sj_W → Prop) : Nat → sj_W → Prop
  | 0 => fun _ => False
  | n + 1 => fun w => b (sj_lp0 b n) w
/-- the rule of such a loop: an invariant, and a measure that falls -/
theorem sj_lp0_run {b : (sj_W → Prop) → sj_W → Prop} (I : sj_W → Prop) (μ : sj_W → Nat) (hs : ∀ (w : sj_W) (K : sj_W → Prop), I w → (∀ (v : sj_W), I v → μ v < μ w → K v) → b K w) : ∀ (n : Nat) (w : sj_W), I w → μ w < n → sj_lp0 b n w
  | 0, w, _, h => absurd h (Nat.not_lt_zero _)
  | n + 1, w, hi, h => hs w _ hi (fun v hj hl => sj_lp0_run I μ hs n v hj (Nat.lt_of_lt_of_le hl (Nat.le_of_lt_succ h)))
def sj_lp1 {A : Type} (b : (A → sj_W → Prop) → A → sj_W → Prop) : Nat → A → sj_W → Prop
  | 0 => fun _ _ => False
  | n + 1 => fun x0 w => b (sj_lp1 b n) x0 w
/-- the rule of such a loop: an invariant, and a measure that falls -/
theorem sj_lp1_run {A : Type} {b : (A → sj_W → Prop) → A → sj_W → Prop} (I : A → sj_W → Prop) (μ : A → sj_W → Nat) (hs : ∀ (x0 : A) (w : sj_W) (K : A → sj_W → Prop), I x0 w → (∀ (y0 : A) (v : sj_W), I y0 v → μ y0 v < μ x0 w → K y0 v) → b K x0 w) : ∀ (n : Nat) (x0 : A) (w : sj_W), I x0 w → μ x0 w < n → sj_lp1 b n x0 w
  | 0, x0, w, _, h => absurd h (Nat.not_lt_zero _)
  | n + 1, x0, w, hi, h => hs x0 w _ hi (fun y0 v hj hl => sj_lp1_run I μ hs n y0 v hj (Nat.lt_of_lt_of_le hl (Nat.le_of_lt_succ h)))
def sj_lp2 {A B : Type} (b : (A → B → sj_W → Prop) → A → B → sj_W → Prop) : Nat → A → B → sj_W → Prop
  | 0 => fun _ _ _ => False
  | n + 1 => fun x0 x1 w => b (sj_lp2 b n) x0 x1 w
/-- the rule of such a loop: an invariant, and a measure that falls -/
theorem sj_lp2_run {A B : Type} {b : (A → B → sj_W → Prop) → A → B → sj_W → Prop} (I : A → B → sj_W → Prop) (μ : A → B → sj_W → Nat) (hs : ∀ (x0 : A) (x1 : B) (w : sj_W) (K : A → B → sj_W → Prop), I x0 x1 w → (∀ (y0 : A) (y1 : B) (v : sj_W), I y0 y1 v → μ y0 y1 v < μ x0 x1 w → K y0 y1 v) → b K x0 x1 w) : ∀ (n : Nat) (x0 : A) (x1 : B) (w : sj_W), I x0 x1 w → μ x0 x1 w < n → sj_lp2 b n x0 x1 w
  | 0, x0, x1, w, _, h => absurd h (Nat.not_lt_zero _)
  | n + 1, x0, x1, w, hi, h => hs x0 x1 w _ hi (fun y0 y1 v hj hl => sj_lp2_run I μ hs n y0 y1 v hj (Nat.lt_of_lt_of_le hl (Nat.le_of_lt_succ h)))
def sj_lp3 {A B C : Type} (b : (A → B → C → sj_W → Prop) → A → B → C → sj_W → Prop) : Nat → A → B → C → sj_W → Prop
  | 0 => fun _ _ _ _ => False
  | n + 1 => fun x0 x1 x2 w => b (sj_lp3 b n) x0 x1 x2 w
/-- the rule of such a loop: an invariant, and a measure that falls -/
theorem sj_lp3_run {A B C : Type} {b : (A → B → C → sj_W → Prop) → A → B → C → sj_W → Prop} (I : A → B → C → sj_W → Prop) (μ : A → B → C → sj_W → Nat) (hs : ∀ (x0 : A) (x1 : B) (x2 : C) (w : sj_W) (K : A → B → C → sj_W → Prop), I x0 x1 x2 w → (∀ (y0 : A) (y1 : B) (y2 : C) (v : sj_W), I y0 y1 y2 v → μ y0 y1 y2 v < μ x0 x1 x2 w → K y0 y1 y2 v) → b K x0 x1 x2 w) : ∀ (n : Nat) (x0 : A) (x1 : B) (x2 : C) (w : sj_W), I x0 x1 x2 w → μ x0 x1 x2 w < n → sj_lp3 b n x0 x1 x2 w
  | 0, x0, x1, x2, w, _, h => absurd h (Nat.not_lt_zero _)
  | n + 1, x0, x1, x2, w, hi, h => hs x0 x1 x2 w _ hi (fun y0 y1 y2 v hj hl => sj_lp3_run I μ hs n y0 y1 y2 v hj (Nat.lt_of_lt_of_le hl (Nat.le_of_lt_succ h)))
def sj_lp4 {A B C D : Type} (b : (A → B → C → D → sj_W → Prop) → A → B → C → D → sj_W → Prop) : Nat → A → B → C → D → sj_W → Prop
  | 0 => fun _ _ _ _ _ => False
  | n + 1 => fun x0 x1 x2 x3 w => b (sj_lp4 b n) x0 x1 x2 x3 w
/-- the rule of such a loop: an invariant, and a measure that falls -/
theorem sj_lp4_run {A B C D : Type} {b : (A → B → C → D → sj_W → Prop) → A → B → C → D → sj_W → Prop} (I : A → B → C → D → sj_W → Prop) (μ : A → B → C → D → sj_W → Nat) (hs : ∀ (x0 : A) (x1 : B) (x2 : C) (x3 : D) (w : sj_W) (K : A → B → C → D → sj_W → Prop), I x0 x1 x2 x3 w → (∀ (y0 : A) (y1 : B) (y2 : C) (y3 : D) (v : sj_W), I y0 y1 y2 y3 v → μ y0 y1 y2 y3 v < μ x0 x1 x2 x3 w → K y0 y1 y2 y3 v) → b K x0 x1 x2 x3 w) : ∀ (n : Nat) (x0 : A) (x1 : B) (x2 : C) (x3 : D) (w : sj_W), I x0 x1 x2 x3 w → μ x0 x1 x2 x3 w < n → sj_lp4 b n x0 x1 x2 x3 w
  | 0, x0, x1, x2, x3, w, _, h => absurd h (Nat.not_lt_zero _)
  | n + 1, x0, x1, x2, x3, w, hi, h => hs x0 x1 x2 x3 w _ hi (fun y0 y1 y2 y3 v hj hl => sj_lp4_run I μ hs n y0 y1 y2 y3 v hj (Nat.lt_of_lt_of_le hl (Nat.le_of_lt_succ h)))
def sj_lp5 {A B C D F : Type} (b : (A → B → C → D → F → sj_W → Prop) → A → B → C → D → F → sj_W → Prop) : Nat → A → B → C → D → F → sj_W → Prop
  | 0 => fun _ _ _ _ _ _ => False
  | n + 1 => fun x0 x1 x2 x3 x4 w => b (sj_lp5 b n) x0 x1 x2 x3 x4 w
/-- the rule of such a loop: an invariant, and a measure that falls -/
theorem sj_lp5_run {A B C D F : Type} {b : (A → B → C → D → F → sj_W → Prop) → A → B → C → D → F → sj_W → Prop} (I : A → B → C → D → F → sj_W → Prop) (μ : A → B → C → D → F → sj_W → Nat) (hs : ∀ (x0 : A) (x1 : B) (x2 : C) (x3 : D) (x4 : F) (w : sj_W) (K : A → B → C → D → F → sj_W → Prop), I x0 x1 x2 x3 x4 w → (∀ (y0 : A) (y1 : B) (y2 : C) (y3 : D) (y4 : F) (v : sj_W), I y0 y1 y2 y3 y4 v → μ y0 y1 y2 y3 y4 v < μ x0 x1 x2 x3 x4 w → K y0 y1 y2 y3 y4 v) → b K x0 x1 x2 x3 x4 w) : ∀ (n : Nat) (x0 : A) (x1 : B) (x2 : C) (x3 : D) (x4 : F) (w : sj_W), I x0 x1 x2 x3 x4 w → μ x0 x1 x2 x3 x4 w < n → sj_lp5 b n x0 x1 x2 x3 x4 w
  | 0, x0, x1, x2, x3, x4, w, _, h => absurd h (Nat.not_lt_zero _)
  | n + 1, x0, x1, x2, x3, x4, w, hi, h => hs x0 x1 x2 x3 x4 w _ hi (fun y0 y1 y2 y3 y4 v hj hl => sj_lp5_run I μ hs n y0 y1 y2 y3 y4 v hj (Nat.lt_of_lt_of_le hl (Nat.le_of_lt_succ h)))
def sj_lp6 {A B C D F G : Type} (b : (A → B → C → D → F → G → sj_W → Prop) → A → B → C → D → F → G → sj_W → Prop) : Nat → A → B → C → D → F → G → sj_W → Prop
  | 0 => fun _ _ _ _ _ _ _ => False
  | n + 1 => fun x0 x1 x2 x3 x4 x5 w => b (sj_lp6 b n) x0 x1 x2 x3 x4 x5 w
/-- the rule of such a loop: an invariant, and a measure that falls -/
theorem sj_lp6_run {A B C D F G : Type} {b : (A → B → C → D → F → G → sj_W → Prop) → A → B → C → D → F → G → sj_W → Prop} (I : A → B → C → D → F → G → sj_W → Prop) (μ : A → B → C → D → F → G → sj_W → Nat) (hs : ∀ (x0 : A) (x1 : B) (x2 : C) (x3 : D) (x4 : F) (x5 : G) (w : sj_W) (K : A → B → C → D → F → G → sj_W → Prop), I x0 x1 x2 x3 x4 x5 w → (∀ (y0 : A) (y1 : B) (y2 : C) (y3 : D) (y4 : F) (y5 : G) (v : sj_W), I y0 y1 y2 y3 y4 y5 v → μ y0 y1 y2 y3 y4 y5 v < μ x0 x1 x2 x3 x4 x5 w → K y0 y1 y2 y3 y4 y5 v) → b K x0 x1 x2 x3 x4 x5 w) : ∀ (n : Nat) (x0 : A) (x1 : B) (x2 : C) (x3 : D) (x4 : F) (x5 : G) (w : sj_W), I x0 x1 x2 x3 x4 x5 w → μ x0 x1 x2 x3 x4 x5 w < n → sj_lp6 b n x0 x1 x2 x3 x4 x5 w
  | 0, x0, x1, x2, x3, x4, x5, w, _, h => absurd h (Nat.not_lt_zero _)
  | n + 1, x0, x1, x2, x3, x4, x5, w, hi, h => hs x0 x1 x2 x3 x4 x5 w _ hi (fun y0 y1 y2 y3 y4 y5 v hj hl => sj_lp6_run I μ hs n y0 y1 y2 y3 y4 y5 v hj (Nat.lt_of_lt_of_le hl (Nat.le_of_lt_succ h)))
/-- a place where ways come together again, and what follows from there on -/
def sj_jn0 (b : (sj_W → Prop) → Prop) (E : sj_W → Prop) : Prop := b E
theorem sj_jn0_e {b : (sj_W → Prop) → Prop} {E0 : sj_W → Prop} (h : sj_jn0 b E0) : ∃ E, E = E0 ∧ b E := ⟨E0, rfl, h⟩
theorem sj_jn0_i {b : (sj_W → Prop) → Prop} {E0 : sj_W → Prop} (I : sj_W → Prop) (h : ∀ E : sj_W → Prop, (∀ (w : sj_W), I w → E w) → b E) (h0 : ∀ (w : sj_W), I w → E0 w) : sj_jn0 b E0 := h E0 h0
/-- a place where ways come together again, and what follows from there on -/
def sj_jn1 {A : Type} (b : (A → sj_W → Prop) → Prop) (E : A → sj_W → Prop) : Prop := b E
theorem sj_jn1_e {A : Type} {b : (A → sj_W → Prop) → Prop} {E0 : A → sj_W → Prop} (h : sj_jn1 b E0) : ∃ E, E = E0 ∧ b E := ⟨E0, rfl, h⟩
theorem sj_jn1_i {A : Type} {b : (A → sj_W → Prop) → Prop} {E0 : A → sj_W → Prop} (I : A → sj_W → Prop) (h : ∀ E : A → sj_W → Prop, (∀ (x0 : A) (w : sj_W), I x0 w → E x0 w) → b E) (h0 : ∀ (x0 : A) (w : sj_W), I x0 w → E0 x0 w) : sj_jn1 b E0 := h E0 h0
/-- a place where ways come together again, and what follows from there on -/
def sj_jn2 {A B : Type} (b : (A → B → sj_W → Prop) → Prop) (E : A → B → sj_W → Prop) : Prop := b E
theorem sj_jn2_e {A B : Type} {b : (A → B → sj_W → Prop) → Prop} {E0 : A → B → sj_W → Prop} (h : sj_jn2 b E0) : ∃ E, E = E0 ∧ b E := ⟨E0, rfl, h⟩
theorem sj_jn2_i {A B : Type} {b : (A → B → sj_W → Prop) → Prop} {E0 : A → B → sj_W → Prop} (I : A → B → sj_W → Prop) (h : ∀ E : A → B → sj_W → Prop, (∀ (x0 : A) (x1 : B) (w : sj_W), I x0 x1 w → E x0 x1 w) → b E) (h0 : ∀ (x0 : A) (x1 : B) (w : sj_W), I x0 x1 w → E0 x0 x1 w) : sj_jn2 b E0 := h E0 h0
/-- a place where ways come together again, and what follows from there on -/
def sj_jn3 {A B C : Type} (b : (A → B → C → sj_W → Prop) → Prop) (E : A → B → C → sj_W → Prop) : Prop := b E
theorem sj_jn3_e {A B C : Type} {b : (A → B → C → sj_W → Prop) → Prop} {E0 : A → B → C → sj_W → Prop} (h : sj_jn3 b E0) : ∃ E, E = E0 ∧ b E := ⟨E0, rfl, h⟩
theorem sj_jn3_i {A B C : Type} {b : (A → B → C → sj_W → Prop) → Prop} {E0 : A → B → C → sj_W → Prop} (I : A → B → C → sj_W → Prop) (h : ∀ E : A → B → C → sj_W → Prop, (∀ (x0 : A) (x1 : B) (x2 : C) (w : sj_W), I x0 x1 x2 w → E x0 x1 x2 w) → b E) (h0 : ∀ (x0 : A) (x1 : B) (x2 : C) (w : sj_W), I x0 x1 x2 w → E0 x0 x1 x2 w) : sj_jn3 b E0 := h E0 h0
/-- a place where ways come together again, and what follows from there on -/
def sj_jn4 {A B C D : Type} (b : (A → B → C → D → sj_W → Prop) → Prop) (E : A → B → C → D → sj_W → Prop) : Prop := b E
theorem sj_jn4_e {A B C D : Type} {b : (A → B → C → D → sj_W → Prop) → Prop} {E0 : A → B → C → D → sj_W → Prop} (h : sj_jn4 b E0) : ∃ E, E = E0 ∧ b E := ⟨E0, rfl, h⟩
theorem sj_jn4_i {A B C D : Type} {b : (A → B → C → D → sj_W → Prop) → Prop} {E0 : A → B → C → D → sj_W → Prop} (I : A → B → C → D → sj_W → Prop) (h : ∀ E : A → B → C → D → sj_W → Prop, (∀ (x0 : A) (x1 : B) (x2 : C) (x3 : D) (w : sj_W), I x0 x1 x2 x3 w → E x0 x1 x2 x3 w) → b E) (h0 : ∀ (x0 : A) (x1 : B) (x2 : C) (x3 : D) (w : sj_W), I x0 x1 x2 x3 w → E0 x0 x1 x2 x3 w) : sj_jn4 b E0 := h E0 h0
/-- a place where ways come together again, and what follows from there on -/
def sj_jn5 {A B C D F : Type} (b : (A → B → C → D → F → sj_W → Prop) → Prop) (E : A → B → C → D → F → sj_W → Prop) : Prop := b E
theorem sj_jn5_e {A B C D F : Type} {b : (A → B → C → D → F → sj_W → Prop) → Prop} {E0 : A → B → C → D → F → sj_W → Prop} (h : sj_jn5 b E0) : ∃ E, E = E0 ∧ b E := ⟨E0, rfl, h⟩
theorem sj_jn5_i {A B C D F : Type} {b : (A → B → C → D → F → sj_W → Prop) → Prop} {E0 : A → B → C → D → F → sj_W → Prop} (I : A → B → C → D → F → sj_W → Prop) (h : ∀ E : A → B → C → D → F → sj_W → Prop, (∀ (x0 : A) (x1 : B) (x2 : C) (x3 : D) (x4 : F) (w : sj_W), I x0 x1 x2 x3 x4 w → E x0 x1 x2 x3 x4 w) → b E) (h0 : ∀ (x0 : A) (x1 : B) (x2 : C) (x3 : D) (x4 : F) (w : sj_W), I x0 x1 x2 x3 x4 w → E0 x0 x1 x2 x3 x4 w) : sj_jn5 b E0 := h E0 h0
theorem in_X00 : ∀ z ∈ u_ws RX0 TX0 8, z ∈ lw_tbl ∧ goodWord z = true := by decide +kernel
theorem in_X0 : ∀ z ∈ u_ws RX0 TX0 8, z ∈ sj_Big := fun z hz => sj_big (in_X00 z hz).1 (in_X00 z hz).2
theorem in_X10 : ∀ z ∈ u_ws RX1 TX1 2, z ∈ lw_tbl ∧ goodWord z = true := by decide +kernel
theorem in_X1 : ∀ z ∈ u_ws RX1 TX1 2, z ∈ sj_Big := fun z hz => sj_big (in_X10 z hz).1 (in_X10 z hz).2
theorem in_X30 : ∀ z ∈ u_ws RX3 TX3 3, z ∈ lw_tbl ∧ goodWord z = true := by decide +kernel
theorem in_X3 : ∀ z ∈ u_ws RX3 TX3 3, z ∈ sj_Big := fun z hz => sj_big (in_X30 z hz).1 (in_X30 z hz).2
theorem in_X40 : ∀ z ∈ u_ws RX4 TX4 3, z ∈ lw_tbl ∧ goodWord z = true := by decide +kernel
theorem in_X4 : ∀ z ∈ u_ws RX4 TX4 3, z ∈ sj_Big := fun z hz => sj_big (in_X40 z hz).1 (in_X40 z hz).2
theorem in_X60 : ∀ z ∈ u_ws RX6 TX6 5, z ∈ lw_tbl ∧ goodWord z = true := by decide +kernel
theorem in_X6 : ∀ z ∈ u_ws RX6 TX6 5, z ∈ sj_Big := fun z hz => sj_big (in_X60 z hz).1 (in_X60 z hz).2
theorem in_X70 : ∀ z ∈ u_ws RX7 TX7 8, z ∈ lw_tbl ∧ goodWord z = true := by decide +kernel
theorem in_X7 : ∀ z ∈ u_ws RX7 TX7 8, z ∈ sj_Big := fun z hz => sj_big (in_X70 z hz).1 (in_X70 z hz).2
section SJL
variable {p : Program} {l : Launch} {e : Env} {R : Room} {s : State} {m : MethodId} {args : Array Value} {below : List Frame} {meth : Method} {c : Code} {H : Heap} {locs : List Loc} {cells slots : Nat} {Q : State → Prop} {cc : ByteArray} {pc : Nat} {ls : Array Slot} {rest : List Value} {G : sj_G} {nL : Nat} {w : sj_W}
theorem ex_X6_69 : (∀ z ∈ vx_atS RX6 69 "java/lang/IllegalArgumentException" ["java/lang/RuntimeException", "java/lang/Exception"], z ∈ lw_tbl ∧ (goodWord z || sj_nok z) = true) ∧ (∀ z ∈ Cond.classLink RX6 65 "java/lang/IllegalArgumentException" :: Cond.initialized "java/lang/IllegalArgumentException" :: vx_atS RX6 69 "java/lang/IllegalArgumentException" ["java/lang/RuntimeException", "java/lang/Exception"], vx_ot z = true) := ⟨by decide +kernel, by decide +kernel⟩
theorem th_X6_223 {QX : String → sj_W → Prop} {Qc : Array Value → State → Outcome → State → Prop} {rmM : Room} (hC : sj_C G p l s m args c cc RX6 nL) (hD : sj_D meth c) (hH : sj_H G s w H locs) (hl : ls.size = nL) (d0 : decode cc pc = .ok (.new 65, 3)) (d3 : decode cc (pc + 3) = .ok (.dup, 1)) (d4 : decode cc (pc + 4) = .ok (.ldc 223, 2)) (d6 : decode cc (pc + 6) = .ok (.invokespecial 69, 3)) (d9 : decode cc (pc + 9) = .ok (.athrow, 1)) (hR : 5 < R.frames ∧ (rest.map fun v => v.category).sum + 82 ≤ R.locals) (hRc : cells + 1 ≤ R.cells ∧ slots + 6 ≤ R.slots) (hf : cells + 1 ≤ rmM.cells ∧ slots + 6 ≤ rmM.slots) (hq : QX "java/lang/IllegalArgumentException" w) : W p l e R s m args below meth c H locs cells slots (sj_MQ G below Qc QX args s rmM) (F0 m pc ls rest) :=
  sj_throw hC hD hH hl mb_138 mb_9 (sj_str (t := "no such kind") (List.mem_of_getElem? (i := 179) (by decide +kernel))) ex_X6_69.1 ex_X6_69.2 (by decide +kernel) d0 d3 d4 d6 d9 hR hRc hf hq
theorem th_X6_233 {QX : String → sj_W → Prop} {Qc : Array Value → State → Outcome → State → Prop} {rmM : Room} (hC : sj_C G p l s m args c cc RX6 nL) (hD : sj_D meth c) (hH : sj_H G s w H locs) (hl : ls.size = nL) (d0 : decode cc pc = .ok (.new 65, 3)) (d3 : decode cc (pc + 3) = .ok (.dup, 1)) (d4 : decode cc (pc + 4) = .ok (.ldc 233, 2)) (d6 : decode cc (pc + 6) = .ok (.invokespecial 69, 3)) (d9 : decode cc (pc + 9) = .ok (.athrow, 1)) (hR : 5 < R.frames ∧ (rest.map fun v => v.category).sum + 82 ≤ R.locals) (hRc : cells + 1 ≤ R.cells ∧ slots + 6 ≤ R.slots) (hf : cells + 1 ≤ rmM.cells ∧ slots + 6 ≤ rmM.slots) (hq : QX "java/lang/IllegalArgumentException" w) : W p l e R s m args below meth c H locs cells slots (sj_MQ G below Qc QX args s rmM) (F0 m pc ls rest) :=
  sj_throw hC hD hH hl mb_138 mb_9 (sj_str (t := "no number of this kind") (List.mem_of_getElem? (i := 215) (by decide +kernel))) ex_X6_69.1 ex_X6_69.2 (by decide +kernel) d0 d3 d4 d6 d9 hR hRc hf hq
theorem ex_X6_76 : (∀ z ∈ vx_atS RX6 76 "java/lang/IndexOutOfBoundsException" ["java/lang/RuntimeException", "java/lang/Exception"], z ∈ lw_tbl ∧ (goodWord z || sj_nok z) = true) ∧ (∀ z ∈ Cond.classLink RX6 72 "java/lang/IndexOutOfBoundsException" :: Cond.initialized "java/lang/IndexOutOfBoundsException" :: vx_atS RX6 76 "java/lang/IndexOutOfBoundsException" ["java/lang/RuntimeException", "java/lang/Exception"], vx_ot z = true) := ⟨by decide +kernel, by decide +kernel⟩
theorem th_X6_235 {QX : String → sj_W → Prop} {Qc : Array Value → State → Outcome → State → Prop} {rmM : Room} (hC : sj_C G p l s m args c cc RX6 nL) (hD : sj_D meth c) (hH : sj_H G s w H locs) (hl : ls.size = nL) (d0 : decode cc pc = .ok (.new 72, 3)) (d3 : decode cc (pc + 3) = .ok (.dup, 1)) (d4 : decode cc (pc + 4) = .ok (.ldc 235, 2)) (d6 : decode cc (pc + 6) = .ok (.invokespecial 76, 3)) (d9 : decode cc (pc + 9) = .ok (.athrow, 1)) (hR : 5 < R.frames ∧ (rest.map fun v => v.category).sum + 82 ≤ R.locals) (hRc : cells + 1 ≤ R.cells ∧ slots + 6 ≤ R.slots) (hf : cells + 1 ≤ rmM.cells ∧ slots + 6 ≤ rmM.slots) (hq : QX "java/lang/IndexOutOfBoundsException" w) : W p l e R s m args below meth c H locs cells slots (sj_MQ G below Qc QX args s rmM) (F0 m pc ls rest) :=
  sj_throw hC hD hH hl mb_223 mb_10 (sj_str (t := "no such row") (List.mem_of_getElem? (i := 232) (by decide +kernel))) ex_X6_76.1 ex_X6_76.2 (by decide +kernel) d0 d3 d4 d6 d9 hR hRc hf hq
theorem gf_X6_11 (hC : sj_C G p l s m args c cc RX6 nL) (hH : sj_H G s w H locs) {a : Nat} (hT : sj_T w a = 5) (hn : sj_A w 32 a ≠ 0) (hdg : decode cc pc = .ok (.getfield 11, 3)) (kk : W p l e R s m args below meth c H locs cells slots Q (F0 m (pc + 3) ls (.ref (sj_A w 32 a) :: rest))) : W p l e R s m args below meth c H locs cells slots Q (F0 m pc ls (.ref a :: rest)) :=
  sj_gf hC hH (ci := 4) (k := 0) rfl in_X6 (by decide) (by decide) mb_103 (by decide) (sj_fvA rfl rfl hn) hT hdg kk
theorem gf_X6_46 (hC : sj_C G p l s m args c cc RX6 nL) (hH : sj_H G s w H locs) {a : Nat} (hT : sj_T w a = 2) (hdg : decode cc pc = .ok (.getfield 46, 3)) (kk : W p l e R s m args below meth c H locs cells slots Q (F0 m (pc + 3) ls (.int (sj_I w 9 a) :: rest))) : W p l e R s m args below meth c H locs cells slots Q (F0 m pc ls (.ref a :: rest)) :=
  sj_gfN hC hH (ci := 1) (k := 1) rfl in_X1 (by decide) (by decide) mb_81 (by decide) (sj_fvI rfl rfl) hT hdg kk
theorem gf_X6_57 (hC : sj_C G p l s m args c cc RX6 nL) (hH : sj_H G s w H locs) {a : Nat} (hT : sj_T w a = 2) (hn : sj_A w 8 a ≠ 0) (hdg : decode cc pc = .ok (.getfield 57, 3)) (kk : W p l e R s m args below meth c H locs cells slots Q (F0 m (pc + 3) ls (.ref (sj_A w 8 a) :: rest))) : W p l e R s m args below meth c H locs cells slots Q (F0 m pc ls (.ref a :: rest)) :=
  sj_gfN hC hH (ci := 1) (k := 0) rfl in_X1 (by decide) (by decide) mb_78 (by decide) (sj_fvA rfl rfl hn) hT hdg kk
theorem pf_X6_46 (hC : sj_C G p l s m args c cc RX6 nL) (hH : sj_H G s w H locs) {a : Nat} {v : Int32} (hT : sj_T w a = 2) (hdg : decode cc pc = .ok (.putfield 46, 3)) (kk : ∀ (w1 : sj_W) (H : Heap) (locs : List Loc), w1 = sj_sI w 9 a v → sj_H G s w1 H locs → W p l e R s m args below meth c H locs cells slots Q (F0 m (pc + 3) ls rest)) : W p l e R s m args below meth c H locs cells slots Q (F0 m pc ls (.int v :: .ref a :: rest)) :=
  sj_pfIN hC hH (ci := 1) (k := 1) (f := 9) tyX1 tyX1_ok nmX1 rfl in_X1 (by decide) (by decide) mb_81 (by decide) rfl rfl rfl rfl rfl rfl hT hdg (fun H1 locs1 h => kk _ H1 locs1 rfl h)
theorem ex_X6_54 : (∀ z ∈ vx_atS RX6 54 "java/lang/IllegalStateException" ["java/lang/RuntimeException", "java/lang/Exception"], z ∈ lw_tbl ∧ (goodWord z || sj_nok z) = true) ∧ (∀ z ∈ Cond.classLink RX6 50 "java/lang/IllegalStateException" :: Cond.initialized "java/lang/IllegalStateException" :: vx_atS RX6 54 "java/lang/IllegalStateException" ["java/lang/RuntimeException", "java/lang/Exception"], vx_ot z = true) := ⟨by decide +kernel, by decide +kernel⟩
theorem th_X6_52 {QX : String → sj_W → Prop} {Qc : Array Value → State → Outcome → State → Prop} {rmM : Room} (hC : sj_C G p l s m args c cc RX6 nL) (hD : sj_D meth c) (hH : sj_H G s w H locs) (hl : ls.size = nL) (d0 : decode cc pc = .ok (.new 50, 3)) (d3 : decode cc (pc + 3) = .ok (.dup, 1)) (d4 : decode cc (pc + 4) = .ok (.ldc 52, 2)) (d6 : decode cc (pc + 6) = .ok (.invokespecial 54, 3)) (d9 : decode cc (pc + 9) = .ok (.athrow, 1)) (hR : 5 < R.frames ∧ (rest.map fun v => v.category).sum + 82 ≤ R.locals) (hRc : cells + 1 ≤ R.cells ∧ slots + 6 ≤ R.slots) (hf : cells + 1 ≤ rmM.cells ∧ slots + 6 ≤ rmM.slots) (hq : QX "java/lang/IllegalStateException" w) : W p l e R s m args below meth c H locs cells slots (sj_MQ G below Qc QX args s rmM) (F0 m pc ls rest) :=
  sj_throw hC hD hH hl mb_239 mb_11 (sj_str (t := "the row is full") (List.mem_of_getElem? (i := 248) (by decide +kernel))) ex_X6_54.1 ex_X6_54.2 (by decide +kernel) d0 d3 d4 d6 d9 hR hRc hf hq
theorem th_X6_227 {QX : String → sj_W → Prop} {Qc : Array Value → State → Outcome → State → Prop} {rmM : Room} (hC : sj_C G p l s m args c cc RX6 nL) (hD : sj_D meth c) (hH : sj_H G s w H locs) (hl : ls.size = nL) (d0 : decode cc pc = .ok (.new 65, 3)) (d3 : decode cc (pc + 3) = .ok (.dup, 1)) (d4 : decode cc (pc + 4) = .ok (.ldc 227, 2)) (d6 : decode cc (pc + 6) = .ok (.invokespecial 69, 3)) (d9 : decode cc (pc + 9) = .ok (.athrow, 1)) (hR : 5 < R.frames ∧ (rest.map fun v => v.category).sum + 82 ≤ R.locals) (hRc : cells + 1 ≤ R.cells ∧ slots + 6 ≤ R.slots) (hf : cells + 1 ≤ rmM.cells ∧ slots + 6 ≤ rmM.slots) (hq : QX "java/lang/IllegalArgumentException" w) : W p l e R s m args below meth c H locs cells slots (sj_MQ G below Qc QX args s rmM) (F0 m pc ls rest) :=
  sj_throw hC hD hH hl mb_138 mb_9 (sj_str (t := "Arrays is asked nothing such") (List.mem_of_getElem? (i := 368) (by decide +kernel))) ex_X6_69.1 ex_X6_69.2 (by decide +kernel) d0 d3 d4 d6 d9 hR hRc hf hq
theorem th_X6_239 {QX : String → sj_W → Prop} {Qc : Array Value → State → Outcome → State → Prop} {rmM : Room} (hC : sj_C G p l s m args c cc RX6 nL) (hD : sj_D meth c) (hH : sj_H G s w H locs) (hl : ls.size = nL) (d0 : decode cc pc = .ok (.new 72, 3)) (d3 : decode cc (pc + 3) = .ok (.dup, 1)) (d4 : decode cc (pc + 4) = .ok (.ldc 239, 2)) (d6 : decode cc (pc + 6) = .ok (.invokespecial 76, 3)) (d9 : decode cc (pc + 9) = .ok (.athrow, 1)) (hR : 5 < R.frames ∧ (rest.map fun v => v.category).sum + 82 ≤ R.locals) (hRc : cells + 1 ≤ R.cells ∧ slots + 6 ≤ R.slots) (hf : cells + 1 ≤ rmM.cells ∧ slots + 6 ≤ rmM.slots) (hq : QX "java/lang/IndexOutOfBoundsException" w) : W p l e R s m args below meth c H locs cells slots (sj_MQ G below Qc QX args s rmM) (F0 m pc ls rest) :=
  sj_throw hC hD hH hl mb_223 mb_10 (sj_str (t := "no such span") (List.mem_of_getElem? (i := 338) (by decide +kernel))) ex_X6_76.1 ex_X6_76.2 (by decide +kernel) d0 d3 d4 d6 d9 hR hRc hf hq
theorem gf_X6_17 (hC : sj_C G p l s m args c cc RX6 nL) (hH : sj_H G s w H locs) {a : Nat} (hT : sj_T w a = 5) (hn : sj_A w 33 a ≠ 0) (hdg : decode cc pc = .ok (.getfield 17, 3)) (kk : W p l e R s m args below meth c H locs cells slots Q (F0 m (pc + 3) ls (.ref (sj_A w 33 a) :: rest))) : W p l e R s m args below meth c H locs cells slots Q (F0 m pc ls (.ref a :: rest)) :=
  sj_gf hC hH (ci := 4) (k := 1) rfl in_X6 (by decide) (by decide) mb_104 (by decide) (sj_fvA rfl rfl hn) hT hdg kk
theorem gf_X6_103 (hC : sj_C G p l s m args c cc RX6 nL) (hH : sj_H G s w H locs) {a : Nat} (hT : sj_T w a = 3) (hdg : decode cc pc = .ok (.getfield 103, 3)) (kk : W p l e R s m args below meth c H locs cells slots Q (F0 m (pc + 3) ls (.int (sj_I w 18 a) :: rest))) : W p l e R s m args below meth c H locs cells slots Q (F0 m pc ls (.ref a :: rest)) :=
  sj_gfN hC hH (ci := 2) (k := 2) rfl in_X3 (by decide) (by decide) mb_95 (by decide) (sj_fvI rfl rfl) hT hdg kk
theorem gf_X6_97 (hC : sj_C G p l s m args c cc RX6 nL) (hH : sj_H G s w H locs) {a : Nat} (hT : sj_T w a = 3) (hdg : decode cc pc = .ok (.getfield 97, 3)) (kk : W p l e R s m args below meth c H locs cells slots Q (F0 m (pc + 3) ls (.int (sj_I w 16 a) :: rest))) : W p l e R s m args below meth c H locs cells slots Q (F0 m pc ls (.ref a :: rest)) :=
  sj_gfN hC hH (ci := 2) (k := 0) rfl in_X3 (by decide) (by decide) mb_93 (by decide) (sj_fvI rfl rfl) hT hdg kk
theorem pf_X4_7 (hC : sj_C G p l s m args c cc RX4 nL) (hH : sj_H G s w H locs) {a : Nat} {v : Nat} (hT : sj_T w a = 4) (hin : meth.name = "<init>") (hv : v ≠ 0) (hdg : decode cc pc = .ok (.putfield 7, 3)) (kk : ∀ (w1 : sj_W) (H : Heap) (locs : List Loc), w1 = sj_sA w 24 a v → sj_H G s w1 H locs → W p l e R s m args below meth c H locs cells slots Q (F0 m (pc + 3) ls rest)) : W p l e R s m args below meth c H locs cells slots Q (F0 m pc ls (.ref v :: .ref a :: rest)) :=
  sj_pfAF hC hH (ci := 3) (k := 0) (f := 24) tyX4 tyX4_ok nmX4 rfl in_X4 (by decide) (by decide) mb_384 (by decide) rfl rfl rfl hin rfl rfl rfl hT hv hdg (fun H1 locs1 h => kk _ H1 locs1 rfl h)
theorem pf_X4_13 (hC : sj_C G p l s m args c cc RX4 nL) (hH : sj_H G s w H locs) {a : Nat} {v : Int32} (hT : sj_T w a = 4) (hin : meth.name = "<init>") (hdg : decode cc pc = .ok (.putfield 13, 3)) (kk : ∀ (w1 : sj_W) (H : Heap) (locs : List Loc), w1 = sj_sI w 25 a v → sj_H G s w1 H locs → W p l e R s m args below meth c H locs cells slots Q (F0 m (pc + 3) ls rest)) : W p l e R s m args below meth c H locs cells slots Q (F0 m pc ls (.int v :: .ref a :: rest)) :=
  sj_pfIF hC hH (ci := 3) (k := 1) (f := 25) tyX4 tyX4_ok nmX4 rfl in_X4 (by decide) (by decide) mb_385 (by decide) rfl rfl rfl hin rfl rfl rfl rfl hT hdg (fun H1 locs1 h => kk _ H1 locs1 rfl h)
theorem pf_X4_17 (hC : sj_C G p l s m args c cc RX4 nL) (hH : sj_H G s w H locs) {a : Nat} {v : Int32} (hT : sj_T w a = 4) (hin : meth.name = "<init>") (hdg : decode cc pc = .ok (.putfield 17, 3)) (kk : ∀ (w1 : sj_W) (H : Heap) (locs : List Loc), w1 = sj_sI w 26 a v → sj_H G s w1 H locs → W p l e R s m args below meth c H locs cells slots Q (F0 m (pc + 3) ls rest)) : W p l e R s m args below meth c H locs cells slots Q (F0 m pc ls (.int v :: .ref a :: rest)) :=
  sj_pfIF hC hH (ci := 3) (k := 2) (f := 26) tyX4 tyX4_ok nmX4 rfl in_X4 (by decide) (by decide) mb_386 (by decide) rfl rfl rfl hin rfl rfl rfl rfl hT hdg (fun H1 locs1 h => kk _ H1 locs1 rfl h)
theorem nw_X6_124 (hC : sj_C G p l s m args c cc RX6 nL) (hH : sj_H G s w H locs) (hcells : cells + 1 ≤ R.cells) (hslots : slots + 3 ≤ R.slots) (hdg : decode cc pc = .ok (.new 124, 3)) (kk : ∀ (q : Nat) (w1 : sj_W) (H : Heap), q ≠ 0 → sj_T w q = 0 → w1 = sj_nw w q 4 0 → sj_H G s w1 H locs → W p l e R s m args below meth c H locs (cells + 1) (slots + 3) Q (F0 m (pc + 3) ls (.ref q :: rest))) : W p l e R s m args below meth c H locs cells slots Q (F0 m pc ls rest) :=
  sj_newO hC hH (ci := 3) tyX4 rfl (by decide) in_X4 tyX4_ok mb_378 mb_379 mb_12 (fun j hj => by match j, hj with | 0, _ => rfl | 1, _ => rfl | 2, _ => rfl) hcells hslots hdg (fun q H1 h1 h2 h => kk q _ H1 h1 h2 rfl h)
theorem gf_X6_100 (hC : sj_C G p l s m args c cc RX6 nL) (hH : sj_H G s w H locs) {a : Nat} (hT : sj_T w a = 3) (hdg : decode cc pc = .ok (.getfield 100, 3)) (kk : W p l e R s m args below meth c H locs cells slots Q (F0 m (pc + 3) ls (.int (sj_I w 17 a) :: rest))) : W p l e R s m args below meth c H locs cells slots Q (F0 m pc ls (.ref a :: rest)) :=
  sj_gfN hC hH (ci := 2) (k := 1) rfl in_X3 (by decide) (by decide) mb_94 (by decide) (sj_fvI rfl rfl) hT hdg kk
theorem th_X6_241 {QX : String → sj_W → Prop} {Qc : Array Value → State → Outcome → State → Prop} {rmM : Room} (hC : sj_C G p l s m args c cc RX6 nL) (hD : sj_D meth c) (hH : sj_H G s w H locs) (hl : ls.size = nL) (d0 : decode cc pc = .ok (.new 50, 3)) (d3 : decode cc (pc + 3) = .ok (.dup, 1)) (d4 : decode cc (pc + 4) = .ok (.ldc 241, 2)) (d6 : decode cc (pc + 6) = .ok (.invokespecial 54, 3)) (d9 : decode cc (pc + 9) = .ok (.athrow, 1)) (hR : 5 < R.frames ∧ (rest.map fun v => v.category).sum + 82 ≤ R.locals) (hRc : cells + 1 ≤ R.cells ∧ slots + 6 ≤ R.slots) (hf : cells + 1 ≤ rmM.cells ∧ slots + 6 ≤ rmM.slots) (hq : QX "java/lang/IllegalStateException" w) : W p l e R s m args below meth c H locs cells slots (sj_MQ G below Qc QX args s rmM) (F0 m pc ls rest) :=
  sj_throw hC hD hH hl mb_239 mb_11 (sj_str (t := "the span does not fit") (List.mem_of_getElem? (i := 373) (by decide +kernel))) ex_X6_54.1 ex_X6_54.2 (by decide +kernel) d0 d3 d4 d6 d9 hR hRc hf hq
theorem gf_X4_17 (hC : sj_C G p l s m args c cc RX4 nL) (hH : sj_H G s w H locs) {a : Nat} (hT : sj_T w a = 4) (hdg : decode cc pc = .ok (.getfield 17, 3)) (kk : W p l e R s m args below meth c H locs cells slots Q (F0 m (pc + 3) ls (.int (sj_I w 26 a) :: rest))) : W p l e R s m args below meth c H locs cells slots Q (F0 m pc ls (.ref a :: rest)) :=
  sj_gf hC hH (ci := 3) (k := 2) rfl in_X4 (by decide) (by decide) mb_386 (by decide) (sj_fvI rfl rfl) hT hdg kk
theorem gf_X4_13 (hC : sj_C G p l s m args c cc RX4 nL) (hH : sj_H G s w H locs) {a : Nat} (hT : sj_T w a = 4) (hdg : decode cc pc = .ok (.getfield 13, 3)) (kk : W p l e R s m args below meth c H locs cells slots Q (F0 m (pc + 3) ls (.int (sj_I w 25 a) :: rest))) : W p l e R s m args below meth c H locs cells slots Q (F0 m pc ls (.ref a :: rest)) :=
  sj_gf hC hH (ci := 3) (k := 1) rfl in_X4 (by decide) (by decide) mb_385 (by decide) (sj_fvI rfl rfl) hT hdg kk
theorem gf_X4_7 (hC : sj_C G p l s m args c cc RX4 nL) (hH : sj_H G s w H locs) {a : Nat} (hT : sj_T w a = 4) (hn : sj_A w 24 a ≠ 0) (hdg : decode cc pc = .ok (.getfield 7, 3)) (kk : W p l e R s m args below meth c H locs cells slots Q (F0 m (pc + 3) ls (.ref (sj_A w 24 a) :: rest))) : W p l e R s m args below meth c H locs cells slots Q (F0 m pc ls (.ref a :: rest)) :=
  sj_gf hC hH (ci := 3) (k := 0) rfl in_X4 (by decide) (by decide) mb_384 (by decide) (sj_fvA rfl rfl hn) hT hdg kk
theorem th_X6_83 {QX : String → sj_W → Prop} {Qc : Array Value → State → Outcome → State → Prop} {rmM : Room} (hC : sj_C G p l s m args c cc RX6 nL) (hD : sj_D meth c) (hH : sj_H G s w H locs) (hl : ls.size = nL) (d0 : decode cc pc = .ok (.new 50, 3)) (d3 : decode cc (pc + 3) = .ok (.dup, 1)) (d4 : decode cc (pc + 4) = .ok (.ldc 83, 2)) (d6 : decode cc (pc + 6) = .ok (.invokespecial 54, 3)) (d9 : decode cc (pc + 9) = .ok (.athrow, 1)) (hR : 5 < R.frames ∧ (rest.map fun v => v.category).sum + 82 ≤ R.locals) (hRc : cells + 1 ≤ R.cells ∧ slots + 6 ≤ R.slots) (hf : cells + 1 ≤ rmM.cells ∧ slots + 6 ≤ rmM.slots) (hq : QX "java/lang/IllegalStateException" w) : W p l e R s m args below meth c H locs cells slots (sj_MQ G below Qc QX args s rmM) (F0 m pc ls rest) :=
  sj_throw hC hD hH hl mb_239 mb_11 (sj_str (t := "no number of the other kind") (List.mem_of_getElem? (i := 326) (by decide +kernel))) ex_X6_54.1 ex_X6_54.2 (by decide +kernel) d0 d3 d4 d6 d9 hR hRc hf hq
theorem th_X6_77 {QX : String → sj_W → Prop} {Qc : Array Value → State → Outcome → State → Prop} {rmM : Room} (hC : sj_C G p l s m args c cc RX6 nL) (hD : sj_D meth c) (hH : sj_H G s w H locs) (hl : ls.size = nL) (d0 : decode cc pc = .ok (.new 65, 3)) (d3 : decode cc (pc + 3) = .ok (.dup, 1)) (d4 : decode cc (pc + 4) = .ok (.ldc 77, 2)) (d6 : decode cc (pc + 6) = .ok (.invokespecial 69, 3)) (d9 : decode cc (pc + 9) = .ok (.athrow, 1)) (hR : 5 < R.frames ∧ (rest.map fun v => v.category).sum + 82 ≤ R.locals) (hRc : cells + 1 ≤ R.cells ∧ slots + 6 ≤ R.slots) (hf : cells + 1 ≤ rmM.cells ∧ slots + 6 ≤ rmM.slots) (hq : QX "java/lang/IllegalArgumentException" w) : W p l e R s m args below meth c H locs cells slots (sj_MQ G below Qc QX args s rmM) (F0 m pc ls rest) :=
  sj_throw hC hD hH hl mb_138 mb_9 (sj_str (t := "no such how") (List.mem_of_getElem? (i := 318) (by decide +kernel))) ex_X6_69.1 ex_X6_69.2 (by decide +kernel) d0 d3 d4 d6 d9 hR hRc hf hq
theorem th_X6_74 {QX : String → sj_W → Prop} {Qc : Array Value → State → Outcome → State → Prop} {rmM : Room} (hC : sj_C G p l s m args c cc RX6 nL) (hD : sj_D meth c) (hH : sj_H G s w H locs) (hl : ls.size = nL) (d0 : decode cc pc = .ok (.new 72, 3)) (d3 : decode cc (pc + 3) = .ok (.dup, 1)) (d4 : decode cc (pc + 4) = .ok (.ldc 74, 2)) (d6 : decode cc (pc + 6) = .ok (.invokespecial 76, 3)) (d9 : decode cc (pc + 9) = .ok (.athrow, 1)) (hR : 5 < R.frames ∧ (rest.map fun v => v.category).sum + 82 ≤ R.locals) (hRc : cells + 1 ≤ R.cells ∧ slots + 6 ≤ R.slots) (hf : cells + 1 ≤ rmM.cells ∧ slots + 6 ≤ rmM.slots) (hq : QX "java/lang/IndexOutOfBoundsException" w) : W p l e R s m args below meth c H locs cells slots (sj_MQ G below Qc QX args s rmM) (F0 m pc ls rest) :=
  sj_throw hC hD hH hl mb_223 mb_10 (sj_str (t := "from or to is out of range") (List.mem_of_getElem? (i := 310) (by decide +kernel))) ex_X6_76.1 ex_X6_76.2 (by decide +kernel) d0 d3 d4 d6 d9 hR hRc hf hq
theorem gf_X0_30 (hC : sj_C G p l s m args c cc RX0 nL) (hH : sj_H G s w H locs) {a : Nat} (hT : sj_T w a = 2) (hn : sj_A w 8 a ≠ 0) (hdg : decode cc pc = .ok (.getfield 30, 3)) (kk : W p l e R s m args below meth c H locs cells slots Q (F0 m (pc + 3) ls (.ref (sj_A w 8 a) :: rest))) : W p l e R s m args below meth c H locs cells slots Q (F0 m pc ls (.ref a :: rest)) :=
  sj_gfN hC hH (ci := 1) (k := 0) rfl in_X1 (by decide) (by decide) mb_77 (by decide) (sj_fvA rfl rfl hn) hT hdg kk
theorem pf_X0_26 (hC : sj_C G p l s m args c cc RX0 nL) (hH : sj_H G s w H locs) {a : Nat} {v : Nat} (hT : sj_T w a = 1) (hv : v ≠ 0) (hdg : decode cc pc = .ok (.putfield 26, 3)) (kk : ∀ (w1 : sj_W) (H : Heap) (locs : List Loc), w1 = sj_sA w 5 a v → sj_H G s w1 H locs → W p l e R s m args below meth c H locs cells slots Q (F0 m (pc + 3) ls rest)) : W p l e R s m args below meth c H locs cells slots Q (F0 m pc ls (.ref v :: .ref a :: rest)) :=
  sj_pfA hC hH (ci := 0) (k := 5) (f := 5) tyX0 tyX0_ok nmX0 rfl in_X0 (by decide) (by decide) mb_48 (by decide) rfl rfl rfl rfl rfl hT hv hdg (fun H1 locs1 h => kk _ H1 locs1 rfl h)
theorem gf_X0_33 (hC : sj_C G p l s m args c cc RX0 nL) (hH : sj_H G s w H locs) {a : Nat} (hT : sj_T w a = 2) (hdg : decode cc pc = .ok (.getfield 33, 3)) (kk : W p l e R s m args below meth c H locs cells slots Q (F0 m (pc + 3) ls (.int (sj_I w 9 a) :: rest))) : W p l e R s m args below meth c H locs cells slots Q (F0 m pc ls (.ref a :: rest)) :=
  sj_gfN hC hH (ci := 1) (k := 1) rfl in_X1 (by decide) (by decide) mb_80 (by decide) (sj_fvI rfl rfl) hT hdg kk
theorem pf_X0_37 (hC : sj_C G p l s m args c cc RX0 nL) (hH : sj_H G s w H locs) {a : Nat} {v : Int32} (hT : sj_T w a = 1) (hdg : decode cc pc = .ok (.putfield 37, 3)) (kk : ∀ (w1 : sj_W) (H : Heap) (locs : List Loc), w1 = sj_sI w 6 a v → sj_H G s w1 H locs → W p l e R s m args below meth c H locs cells slots Q (F0 m (pc + 3) ls rest)) : W p l e R s m args below meth c H locs cells slots Q (F0 m pc ls (.int v :: .ref a :: rest)) :=
  sj_pfI hC hH (ci := 0) (k := 6) (f := 6) tyX0 tyX0_ok nmX0 rfl in_X0 (by decide) (by decide) mb_50 (by decide) rfl rfl rfl rfl rfl rfl hT hdg (fun H1 locs1 h => kk _ H1 locs1 rfl h)
theorem pf_X0_38 (hC : sj_C G p l s m args c cc RX0 nL) (hH : sj_H G s w H locs) {a : Nat} {v : Int32} (hT : sj_T w a = 1) (hz : v = 0 ∨ v = 1) (hdg : decode cc pc = .ok (.putfield 38, 3)) (kk : ∀ (w1 : sj_W) (H : Heap) (locs : List Loc), w1 = sj_sI w 7 a v → sj_H G s w1 H locs → W p l e R s m args below meth c H locs cells slots Q (F0 m (pc + 3) ls rest)) : W p l e R s m args below meth c H locs cells slots Q (F0 m pc ls (.int v :: .ref a :: rest)) :=
  sj_pfI hC hH (ci := 0) (k := 7) (f := 7) tyX0 tyX0_ok nmX0 rfl in_X0 (by decide) (by decide) mb_51 (by decide) rfl rfl rfl rfl (sj_nz hz).1 (sj_nz hz).2 hT hdg (fun H1 locs1 h => kk _ H1 locs1 rfl h)
theorem gf_X0_37 (hC : sj_C G p l s m args c cc RX0 nL) (hH : sj_H G s w H locs) {a : Nat} (hT : sj_T w a = 1) (hdg : decode cc pc = .ok (.getfield 37, 3)) (kk : W p l e R s m args below meth c H locs cells slots Q (F0 m (pc + 3) ls (.int (sj_I w 6 a) :: rest))) : W p l e R s m args below meth c H locs cells slots Q (F0 m pc ls (.ref a :: rest)) :=
  sj_gf hC hH (ci := 0) (k := 6) rfl in_X0 (by decide) (by decide) mb_50 (by decide) (sj_fvI rfl rfl) hT hdg kk
theorem gf_X0_11 (hC : sj_C G p l s m args c cc RX0 nL) (hH : sj_H G s w H locs) {a : Nat} (hT : sj_T w a = 1) (hn : sj_A w 0 a ≠ 0) (hdg : decode cc pc = .ok (.getfield 11, 3)) (kk : W p l e R s m args below meth c H locs cells slots Q (F0 m (pc + 3) ls (.ref (sj_A w 0 a) :: rest))) : W p l e R s m args below meth c H locs cells slots Q (F0 m pc ls (.ref a :: rest)) :=
  sj_gf hC hH (ci := 0) (k := 0) rfl in_X0 (by decide) (by decide) mb_36 (by decide) (sj_fvA rfl rfl hn) hT hdg kk
theorem gf_X0_26 (hC : sj_C G p l s m args c cc RX0 nL) (hH : sj_H G s w H locs) {a : Nat} (hT : sj_T w a = 1) (hn : sj_A w 5 a ≠ 0) (hdg : decode cc pc = .ok (.getfield 26, 3)) (kk : W p l e R s m args below meth c H locs cells slots Q (F0 m (pc + 3) ls (.ref (sj_A w 5 a) :: rest))) : W p l e R s m args below meth c H locs cells slots Q (F0 m pc ls (.ref a :: rest)) :=
  sj_gf hC hH (ci := 0) (k := 5) rfl in_X0 (by decide) (by decide) mb_48 (by decide) (sj_fvA rfl rfl hn) hT hdg kk
theorem gf_X6_28 (hC : sj_C G p l s m args c cc RX6 nL) (hH : sj_H G s w H locs) {a : Nat} (hT : sj_T w a = 5) (hn : sj_A w 35 a ≠ 0) (hdg : decode cc pc = .ok (.getfield 28, 3)) (kk : W p l e R s m args below meth c H locs cells slots Q (F0 m (pc + 3) ls (.ref (sj_A w 35 a) :: rest))) : W p l e R s m args below meth c H locs cells slots Q (F0 m pc ls (.ref a :: rest)) :=
  sj_gf hC hH (ci := 4) (k := 3) rfl in_X6 (by decide) (by decide) mb_106 (by decide) (sj_fvA rfl rfl hn) hT hdg kk
theorem th_X6_225 {QX : String → sj_W → Prop} {Qc : Array Value → State → Outcome → State → Prop} {rmM : Room} (hC : sj_C G p l s m args c cc RX6 nL) (hD : sj_D meth c) (hH : sj_H G s w H locs) (hl : ls.size = nL) (d0 : decode cc pc = .ok (.new 65, 3)) (d3 : decode cc (pc + 3) = .ok (.dup, 1)) (d4 : decode cc (pc + 4) = .ok (.ldc 225, 2)) (d6 : decode cc (pc + 6) = .ok (.invokespecial 69, 3)) (d9 : decode cc (pc + 9) = .ok (.athrow, 1)) (hR : 5 < R.frames ∧ (rest.map fun v => v.category).sum + 82 ≤ R.locals) (hRc : cells + 1 ≤ R.cells ∧ slots + 6 ≤ R.slots) (hf : cells + 1 ≤ rmM.cells ∧ slots + 6 ≤ rmM.slots) (hq : QX "java/lang/IllegalArgumentException" w) : W p l e R s m args below meth c H locs cells slots (sj_MQ G below Qc QX args s rmM) (F0 m pc ls rest) :=
  sj_throw hC hD hH hl mb_138 mb_9 (sj_str (t := "no such order") (List.mem_of_getElem? (i := 455) (by decide +kernel))) ex_X6_69.1 ex_X6_69.2 (by decide +kernel) d0 d3 d4 d6 d9 hR hRc hf hq
theorem th_X6_237 {QX : String → sj_W → Prop} {Qc : Array Value → State → Outcome → State → Prop} {rmM : Room} (hC : sj_C G p l s m args c cc RX6 nL) (hD : sj_D meth c) (hH : sj_H G s w H locs) (hl : ls.size = nL) (d0 : decode cc pc = .ok (.new 72, 3)) (d3 : decode cc (pc + 3) = .ok (.dup, 1)) (d4 : decode cc (pc + 4) = .ok (.ldc 237, 2)) (d6 : decode cc (pc + 6) = .ok (.invokespecial 76, 3)) (d9 : decode cc (pc + 9) = .ok (.athrow, 1)) (hR : 5 < R.frames ∧ (rest.map fun v => v.category).sum + 82 ≤ R.locals) (hRc : cells + 1 ≤ R.cells ∧ slots + 6 ≤ R.slots) (hf : cells + 1 ≤ rmM.cells ∧ slots + 6 ≤ rmM.slots) (hq : QX "java/lang/IndexOutOfBoundsException" w) : W p l e R s m args below meth c H locs cells slots (sj_MQ G below Qc QX args s rmM) (F0 m pc ls rest) :=
  sj_throw hC hD hH hl mb_223 mb_10 (sj_str (t := "no such place") (List.mem_of_getElem? (i := 265) (by decide +kernel))) ex_X6_76.1 ex_X6_76.2 (by decide +kernel) d0 d3 d4 d6 d9 hR hRc hf hq
theorem gf_X0_38 (hC : sj_C G p l s m args c cc RX0 nL) (hH : sj_H G s w H locs) {a : Nat} (hT : sj_T w a = 1) (hdg : decode cc pc = .ok (.getfield 38, 3)) (kk : W p l e R s m args below meth c H locs cells slots Q (F0 m (pc + 3) ls (.int (sj_I w 7 a) :: rest))) : W p l e R s m args below meth c H locs cells slots Q (F0 m pc ls (.ref a :: rest)) :=
  sj_gf hC hH (ci := 0) (k := 7) rfl in_X0 (by decide) (by decide) mb_51 (by decide) (sj_fvI rfl rfl) hT hdg kk
theorem gf_X0_19 (hC : sj_C G p l s m args c cc RX0 nL) (hH : sj_H G s w H locs) {a : Nat} (hT : sj_T w a = 1) (hn : sj_A w 2 a ≠ 0) (hdg : decode cc pc = .ok (.getfield 19, 3)) (kk : W p l e R s m args below meth c H locs cells slots Q (F0 m (pc + 3) ls (.ref (sj_A w 2 a) :: rest))) : W p l e R s m args below meth c H locs cells slots Q (F0 m pc ls (.ref a :: rest)) :=
  sj_gf hC hH (ci := 0) (k := 2) rfl in_X0 (by decide) (by decide) mb_39 (by decide) (sj_fvA rfl rfl hn) hT hdg kk
theorem gf_X6_158 (hC : sj_C G p l s m args c cc RX6 nL) (hH : sj_H G s w H locs) {a : Nat} (hT : sj_T w a = 1) (hn : sj_A w 2 a ≠ 0) (hdg : decode cc pc = .ok (.getfield 158, 3)) (kk : W p l e R s m args below meth c H locs cells slots Q (F0 m (pc + 3) ls (.ref (sj_A w 2 a) :: rest))) : W p l e R s m args below meth c H locs cells slots Q (F0 m pc ls (.ref a :: rest)) :=
  sj_gfN hC hH (ci := 0) (k := 2) rfl in_X0 (by decide) (by decide) mb_41 (by decide) (sj_fvA rfl rfl hn) hT hdg kk
theorem pf_X0_60 (hC : sj_C G p l s m args c cc RX0 nL) (hH : sj_H G s w H locs) {a : Nat} {v : Int32} (hT : sj_T w a = 1) (hdg : decode cc pc = .ok (.putfield 60, 3)) (kk : ∀ (w1 : sj_W) (H : Heap) (locs : List Loc), w1 = sj_sI w 4 a v → sj_H G s w1 H locs → W p l e R s m args below meth c H locs cells slots Q (F0 m (pc + 3) ls rest)) : W p l e R s m args below meth c H locs cells slots Q (F0 m pc ls (.int v :: .ref a :: rest)) :=
  sj_pfI hC hH (ci := 0) (k := 4) (f := 4) tyX0 tyX0_ok nmX0 rfl in_X0 (by decide) (by decide) mb_46 (by decide) rfl rfl rfl rfl rfl rfl hT hdg (fun H1 locs1 h => kk _ H1 locs1 rfl h)
theorem gf_X0_23 (hC : sj_C G p l s m args c cc RX0 nL) (hH : sj_H G s w H locs) {a : Nat} (hT : sj_T w a = 1) (hn : sj_A w 3 a ≠ 0) (hdg : decode cc pc = .ok (.getfield 23, 3)) (kk : W p l e R s m args below meth c H locs cells slots Q (F0 m (pc + 3) ls (.ref (sj_A w 3 a) :: rest))) : W p l e R s m args below meth c H locs cells slots Q (F0 m pc ls (.ref a :: rest)) :=
  sj_gf hC hH (ci := 0) (k := 3) rfl in_X0 (by decide) (by decide) mb_42 (by decide) (sj_fvA rfl rfl hn) hT hdg kk
theorem gf_X0_60 (hC : sj_C G p l s m args c cc RX0 nL) (hH : sj_H G s w H locs) {a : Nat} (hT : sj_T w a = 1) (hdg : decode cc pc = .ok (.getfield 60, 3)) (kk : W p l e R s m args below meth c H locs cells slots Q (F0 m (pc + 3) ls (.int (sj_I w 4 a) :: rest))) : W p l e R s m args below meth c H locs cells slots Q (F0 m pc ls (.ref a :: rest)) :=
  sj_gf hC hH (ci := 0) (k := 4) rfl in_X0 (by decide) (by decide) mb_46 (by decide) (sj_fvI rfl rfl) hT hdg kk
theorem gf_X6_183 (hC : sj_C G p l s m args c cc RX6 nL) (hH : sj_H G s w H locs) {a : Nat} (hT : sj_T w a = 1) (hdg : decode cc pc = .ok (.getfield 183, 3)) (kk : W p l e R s m args below meth c H locs cells slots Q (F0 m (pc + 3) ls (.int (sj_I w 4 a) :: rest))) : W p l e R s m args below meth c H locs cells slots Q (F0 m pc ls (.ref a :: rest)) :=
  sj_gfN hC hH (ci := 0) (k := 4) rfl in_X0 (by decide) (by decide) mb_47 (by decide) (sj_fvI rfl rfl) hT hdg kk
theorem gf_X6_186 (hC : sj_C G p l s m args c cc RX6 nL) (hH : sj_H G s w H locs) {a : Nat} (hT : sj_T w a = 1) (hn : sj_A w 3 a ≠ 0) (hdg : decode cc pc = .ok (.getfield 186, 3)) (kk : W p l e R s m args below meth c H locs cells slots Q (F0 m (pc + 3) ls (.ref (sj_A w 3 a) :: rest))) : W p l e R s m args below meth c H locs cells slots Q (F0 m pc ls (.ref a :: rest)) :=
  sj_gfN hC hH (ci := 0) (k := 3) rfl in_X0 (by decide) (by decide) mb_44 (by decide) (sj_fvA rfl rfl hn) hT hdg kk
theorem gf_X1_15 (hC : sj_C G p l s m args c cc RX1 nL) (hH : sj_H G s w H locs) {a : Nat} (hT : sj_T w a = 2) (hdg : decode cc pc = .ok (.getfield 15, 3)) (kk : W p l e R s m args below meth c H locs cells slots Q (F0 m (pc + 3) ls (.int (sj_I w 9 a) :: rest))) : W p l e R s m args below meth c H locs cells slots Q (F0 m pc ls (.ref a :: rest)) :=
  sj_gf hC hH (ci := 1) (k := 1) rfl in_X1 (by decide) (by decide) mb_79 (by decide) (sj_fvI rfl rfl) hT hdg kk
theorem gf_X1_9 (hC : sj_C G p l s m args c cc RX1 nL) (hH : sj_H G s w H locs) {a : Nat} (hT : sj_T w a = 2) (hn : sj_A w 8 a ≠ 0) (hdg : decode cc pc = .ok (.getfield 9, 3)) (kk : W p l e R s m args below meth c H locs cells slots Q (F0 m (pc + 3) ls (.ref (sj_A w 8 a) :: rest))) : W p l e R s m args below meth c H locs cells slots Q (F0 m pc ls (.ref a :: rest)) :=
  sj_gf hC hH (ci := 1) (k := 0) rfl in_X1 (by decide) (by decide) mb_76 (by decide) (sj_fvA rfl rfl hn) hT hdg kk
theorem th_X6_170 {QX : String → sj_W → Prop} {Qc : Array Value → State → Outcome → State → Prop} {rmM : Room} (hC : sj_C G p l s m args c cc RX6 nL) (hD : sj_D meth c) (hH : sj_H G s w H locs) (hl : ls.size = nL) (d0 : decode cc pc = .ok (.new 72, 3)) (d3 : decode cc (pc + 3) = .ok (.dup, 1)) (d4 : decode cc (pc + 4) = .ok (.ldc 170, 2)) (d6 : decode cc (pc + 6) = .ok (.invokespecial 76, 3)) (d9 : decode cc (pc + 9) = .ok (.athrow, 1)) (hR : 5 < R.frames ∧ (rest.map fun v => v.category).sum + 82 ≤ R.locals) (hRc : cells + 1 ≤ R.cells ∧ slots + 6 ≤ R.slots) (hf : cells + 1 ≤ rmM.cells ∧ slots + 6 ≤ rmM.slots) (hq : QX "java/lang/IndexOutOfBoundsException" w) : W p l e R s m args below meth c H locs cells slots (sj_MQ G below Qc QX args s rmM) (F0 m pc ls rest) :=
  sj_throw hC hD hH hl mb_223 mb_10 (sj_str (t := "the period is out of range") (List.mem_of_getElem? (i := 537) (by decide +kernel))) ex_X6_76.1 ex_X6_76.2 (by decide +kernel) d0 d3 d4 d6 d9 hR hRc hf hq
theorem nw_X4_8 (hC : sj_C G p l s m args c cc RX4 nL) (hH : sj_H G s w H locs) (hcells : cells + 1 ≤ R.cells) (hslots : slots + 3 ≤ R.slots) (hdg : decode cc pc = .ok (.new 8, 3)) (kk : ∀ (q : Nat) (w1 : sj_W) (H : Heap), q ≠ 0 → sj_T w q = 0 → w1 = sj_nw w q 4 0 → sj_H G s w1 H locs → W p l e R s m args below meth c H locs (cells + 1) (slots + 3) Q (F0 m (pc + 3) ls (.ref q :: rest))) : W p l e R s m args below meth c H locs cells slots Q (F0 m pc ls rest) :=
  sj_newO hC hH (ci := 3) tyX4 rfl (by decide) in_X4 tyX4_ok mb_636 mb_379 mb_12 (fun j hj => by match j, hj with | 0, _ => rfl | 1, _ => rfl | 2, _ => rfl) hcells hslots hdg (fun q H1 h1 h2 h => kk q _ H1 h1 h2 rfl h)
theorem th_X6_67 {QX : String → sj_W → Prop} {Qc : Array Value → State → Outcome → State → Prop} {rmM : Room} (hC : sj_C G p l s m args c cc RX6 nL) (hD : sj_D meth c) (hH : sj_H G s w H locs) (hl : ls.size = nL) (d0 : decode cc pc = .ok (.new 65, 3)) (d3 : decode cc (pc + 3) = .ok (.dup, 1)) (d4 : decode cc (pc + 4) = .ok (.ldc 67, 2)) (d6 : decode cc (pc + 6) = .ok (.invokespecial 69, 3)) (d9 : decode cc (pc + 9) = .ok (.athrow, 1)) (hR : 5 < R.frames ∧ (rest.map fun v => v.category).sum + 82 ≤ R.locals) (hRc : cells + 1 ≤ R.cells ∧ slots + 6 ≤ R.slots) (hf : cells + 1 ≤ rmM.cells ∧ slots + 6 ≤ rmM.slots) (hq : QX "java/lang/IllegalArgumentException" w) : W p l e R s m args below meth c H locs cells slots (sj_MQ G below Qc QX args s rmM) (F0 m pc ls rest) :=
  sj_throw hC hD hH hl mb_138 mb_9 (sj_str (t := "times is out of range") (List.mem_of_getElem? (i := 294) (by decide +kernel))) ex_X6_69.1 ex_X6_69.2 (by decide +kernel) d0 d3 d4 d6 d9 hR hRc hf hq
theorem th_X6_70 {QX : String → sj_W → Prop} {Qc : Array Value → State → Outcome → State → Prop} {rmM : Room} (hC : sj_C G p l s m args c cc RX6 nL) (hD : sj_D meth c) (hH : sj_H G s w H locs) (hl : ls.size = nL) (d0 : decode cc pc = .ok (.new 50, 3)) (d3 : decode cc (pc + 3) = .ok (.dup, 1)) (d4 : decode cc (pc + 4) = .ok (.ldc 70, 2)) (d6 : decode cc (pc + 6) = .ok (.invokespecial 54, 3)) (d9 : decode cc (pc + 9) = .ok (.athrow, 1)) (hR : 5 < R.frames ∧ (rest.map fun v => v.category).sum + 82 ≤ R.locals) (hRc : cells + 1 ≤ R.cells ∧ slots + 6 ≤ R.slots) (hf : cells + 1 ≤ rmM.cells ∧ slots + 6 ≤ rmM.slots) (hq : QX "java/lang/IllegalStateException" w) : W p l e R s m args below meth c H locs cells slots (sj_MQ G below Qc QX args s rmM) (F0 m pc ls rest) :=
  sj_throw hC hD hH hl mb_239 mb_11 (sj_str (t := "the row would have too many numbers") (List.mem_of_getElem? (i := 295) (by decide +kernel))) ex_X6_54.1 ex_X6_54.2 (by decide +kernel) d0 d3 d4 d6 d9 hR hRc hf hq
theorem gf_X2_7 (hC : sj_C G p l s m args c cc RX2 nL) (hH : sj_H G s w H locs) {a : Nat} (hT : sj_T w a = 1) (hdg : decode cc pc = .ok (.getfield 7, 3)) (kk : W p l e R s m args below meth c H locs cells slots Q (F0 m (pc + 3) ls (.int (sj_I w 6 a) :: rest))) : W p l e R s m args below meth c H locs cells slots Q (F0 m pc ls (.ref a :: rest)) :=
  sj_gfN hC hH (ci := 0) (k := 6) rfl in_X0 (by decide) (by decide) mb_49 (by decide) (sj_fvI rfl rfl) hT hdg kk
theorem gf_X2_13 (hC : sj_C G p l s m args c cc RX2 nL) (hH : sj_H G s w H locs) {a : Nat} (hT : sj_T w a = 1) (hn : sj_A w 0 a ≠ 0) (hdg : decode cc pc = .ok (.getfield 13, 3)) (kk : W p l e R s m args below meth c H locs cells slots Q (F0 m (pc + 3) ls (.ref (sj_A w 0 a) :: rest))) : W p l e R s m args below meth c H locs cells slots Q (F0 m pc ls (.ref a :: rest)) :=
  sj_gfN hC hH (ci := 0) (k := 0) rfl in_X0 (by decide) (by decide) mb_37 (by decide) (sj_fvA rfl rfl hn) hT hdg kk
theorem gf_X2_17 (hC : sj_C G p l s m args c cc RX2 nL) (hH : sj_H G s w H locs) {a : Nat} (hT : sj_T w a = 1) (hn : sj_A w 2 a ≠ 0) (hdg : decode cc pc = .ok (.getfield 17, 3)) (kk : W p l e R s m args below meth c H locs cells slots Q (F0 m (pc + 3) ls (.ref (sj_A w 2 a) :: rest))) : W p l e R s m args below meth c H locs cells slots Q (F0 m pc ls (.ref a :: rest)) :=
  sj_gfN hC hH (ci := 0) (k := 2) rfl in_X0 (by decide) (by decide) mb_40 (by decide) (sj_fvA rfl rfl hn) hT hdg kk
theorem gf_X2_25 (hC : sj_C G p l s m args c cc RX2 nL) (hH : sj_H G s w H locs) {a : Nat} (hT : sj_T w a = 2) (hdg : decode cc pc = .ok (.getfield 25, 3)) (kk : W p l e R s m args below meth c H locs cells slots Q (F0 m (pc + 3) ls (.int (sj_I w 9 a) :: rest))) : W p l e R s m args below meth c H locs cells slots Q (F0 m pc ls (.ref a :: rest)) :=
  sj_gfN hC hH (ci := 1) (k := 1) rfl in_X1 (by decide) (by decide) mb_82 (by decide) (sj_fvI rfl rfl) hT hdg kk
theorem gf_X0_16 (hC : sj_C G p l s m args c cc RX0 nL) (hH : sj_H G s w H locs) {a : Nat} (hT : sj_T w a = 1) (hn : sj_A w 1 a ≠ 0) (hdg : decode cc pc = .ok (.getfield 16, 3)) (kk : W p l e R s m args below meth c H locs cells slots Q (F0 m (pc + 3) ls (.ref (sj_A w 1 a) :: rest))) : W p l e R s m args below meth c H locs cells slots Q (F0 m pc ls (.ref a :: rest)) :=
  sj_gf hC hH (ci := 0) (k := 1) rfl in_X0 (by decide) (by decide) mb_38 (by decide) (sj_fvA rfl rfl hn) hT hdg kk
theorem gf_X2_51 (hC : sj_C G p l s m args c cc RX2 nL) (hH : sj_H G s w H locs) {a : Nat} (hT : sj_T w a = 1) (hdg : decode cc pc = .ok (.getfield 51, 3)) (kk : W p l e R s m args below meth c H locs cells slots Q (F0 m (pc + 3) ls (.int (sj_I w 4 a) :: rest))) : W p l e R s m args below meth c H locs cells slots Q (F0 m pc ls (.ref a :: rest)) :=
  sj_gfN hC hH (ci := 0) (k := 4) rfl in_X0 (by decide) (by decide) mb_45 (by decide) (sj_fvI rfl rfl) hT hdg kk
theorem gf_X2_54 (hC : sj_C G p l s m args c cc RX2 nL) (hH : sj_H G s w H locs) {a : Nat} (hT : sj_T w a = 1) (hn : sj_A w 3 a ≠ 0) (hdg : decode cc pc = .ok (.getfield 54, 3)) (kk : W p l e R s m args below meth c H locs cells slots Q (F0 m (pc + 3) ls (.ref (sj_A w 3 a) :: rest))) : W p l e R s m args below meth c H locs cells slots Q (F0 m pc ls (.ref a :: rest)) :=
  sj_gfN hC hH (ci := 0) (k := 3) rfl in_X0 (by decide) (by decide) mb_43 (by decide) (sj_fvA rfl rfl hn) hT hdg kk
theorem th_X6_196 {QX : String → sj_W → Prop} {Qc : Array Value → State → Outcome → State → Prop} {rmM : Room} (hC : sj_C G p l s m args c cc RX6 nL) (hD : sj_D meth c) (hH : sj_H G s w H locs) (hl : ls.size = nL) (d0 : decode cc pc = .ok (.new 50, 3)) (d3 : decode cc (pc + 3) = .ok (.dup, 1)) (d4 : decode cc (pc + 4) = .ok (.ldc 196, 2)) (d6 : decode cc (pc + 6) = .ok (.invokespecial 54, 3)) (d9 : decode cc (pc + 9) = .ok (.athrow, 1)) (hR : 5 < R.frames ∧ (rest.map fun v => v.category).sum + 82 ≤ R.locals) (hRc : cells + 1 ≤ R.cells ∧ slots + 6 ≤ R.slots) (hf : cells + 1 ≤ rmM.cells ∧ slots + 6 ≤ rmM.slots) (hq : QX "java/lang/IllegalStateException" w) : W p l e R s m args below meth c H locs cells slots (sj_MQ G below Qc QX args s rmM) (F0 m pc ls rest) :=
  sj_throw hC hD hH hl mb_239 mb_11 (sj_str (t := "fewer than two spans fit") (List.mem_of_getElem? (i := 605) (by decide +kernel))) ex_X6_54.1 ex_X6_54.2 (by decide +kernel) d0 d3 d4 d6 d9 hR hRc hf hq
theorem gf_X6_144 (hC : sj_C G p l s m args c cc RX6 nL) (hH : sj_H G s w H locs) {a : Nat} (hT : sj_T w a = 5) (hdg : decode cc pc = .ok (.getfield 144, 3)) (kk : W p l e R s m args below meth c H locs cells slots Q (F0 m (pc + 3) ls (.int (sj_I w 36 a) :: rest))) : W p l e R s m args below meth c H locs cells slots Q (F0 m pc ls (.ref a :: rest)) :=
  sj_gf hC hH (ci := 4) (k := 4) rfl in_X6 (by decide) (by decide) mb_107 (by decide) (sj_fvI rfl rfl) hT hdg kk
theorem gf_X6_21 (hC : sj_C G p l s m args c cc RX6 nL) (hH : sj_H G s w H locs) {a : Nat} (hT : sj_T w a = 5) (hn : sj_A w 34 a ≠ 0) (hdg : decode cc pc = .ok (.getfield 21, 3)) (kk : W p l e R s m args below meth c H locs cells slots Q (F0 m (pc + 3) ls (.ref (sj_A w 34 a) :: rest))) : W p l e R s m args below meth c H locs cells slots Q (F0 m pc ls (.ref a :: rest)) :=
  sj_gf hC hH (ci := 4) (k := 2) rfl in_X6 (by decide) (by decide) mb_105 (by decide) (sj_fvA rfl rfl hn) hT hdg kk
theorem pf_X6_144 (hC : sj_C G p l s m args c cc RX6 nL) (hH : sj_H G s w H locs) {a : Nat} {v : Int32} (hT : sj_T w a = 5) (hdg : decode cc pc = .ok (.putfield 144, 3)) (kk : ∀ (w1 : sj_W) (H : Heap) (locs : List Loc), w1 = sj_sI w 36 a v → sj_H G s w1 H locs → W p l e R s m args below meth c H locs cells slots Q (F0 m (pc + 3) ls rest)) : W p l e R s m args below meth c H locs cells slots Q (F0 m pc ls (.int v :: .ref a :: rest)) :=
  sj_pfI hC hH (ci := 4) (k := 4) (f := 36) tyX6 tyX6_ok nmX6 rfl in_X6 (by decide) (by decide) mb_107 (by decide) rfl rfl rfl rfl rfl rfl hT hdg (fun H1 locs1 h => kk _ H1 locs1 rfl h)
theorem pf_X6_97 (hC : sj_C G p l s m args c cc RX6 nL) (hH : sj_H G s w H locs) {a : Nat} {v : Int32} (hT : sj_T w a = 3) (hdg : decode cc pc = .ok (.putfield 97, 3)) (kk : ∀ (w1 : sj_W) (H : Heap) (locs : List Loc), w1 = sj_sI w 16 a v → sj_H G s w1 H locs → W p l e R s m args below meth c H locs cells slots Q (F0 m (pc + 3) ls rest)) : W p l e R s m args below meth c H locs cells slots Q (F0 m pc ls (.int v :: .ref a :: rest)) :=
  sj_pfIN hC hH (ci := 2) (k := 0) (f := 16) tyX3 tyX3_ok nmX3 rfl in_X3 (by decide) (by decide) mb_93 (by decide) rfl rfl rfl rfl rfl rfl hT hdg (fun H1 locs1 h => kk _ H1 locs1 rfl h)
theorem pf_X6_100 (hC : sj_C G p l s m args c cc RX6 nL) (hH : sj_H G s w H locs) {a : Nat} {v : Int32} (hT : sj_T w a = 3) (hdg : decode cc pc = .ok (.putfield 100, 3)) (kk : ∀ (w1 : sj_W) (H : Heap) (locs : List Loc), w1 = sj_sI w 17 a v → sj_H G s w1 H locs → W p l e R s m args below meth c H locs cells slots Q (F0 m (pc + 3) ls rest)) : W p l e R s m args below meth c H locs cells slots Q (F0 m pc ls (.int v :: .ref a :: rest)) :=
  sj_pfIN hC hH (ci := 2) (k := 1) (f := 17) tyX3 tyX3_ok nmX3 rfl in_X3 (by decide) (by decide) mb_94 (by decide) rfl rfl rfl rfl rfl rfl hT hdg (fun H1 locs1 h => kk _ H1 locs1 rfl h)
theorem pf_X6_103 (hC : sj_C G p l s m args c cc RX6 nL) (hH : sj_H G s w H locs) {a : Nat} {v : Int32} (hT : sj_T w a = 3) (hdg : decode cc pc = .ok (.putfield 103, 3)) (kk : ∀ (w1 : sj_W) (H : Heap) (locs : List Loc), w1 = sj_sI w 18 a v → sj_H G s w1 H locs → W p l e R s m args below meth c H locs cells slots Q (F0 m (pc + 3) ls rest)) : W p l e R s m args below meth c H locs cells slots Q (F0 m pc ls (.int v :: .ref a :: rest)) :=
  sj_pfIN hC hH (ci := 2) (k := 2) (f := 18) tyX3 tyX3_ok nmX3 rfl in_X3 (by decide) (by decide) mb_95 (by decide) rfl rfl rfl rfl rfl rfl hT hdg (fun H1 locs1 h => kk _ H1 locs1 rfl h)
theorem th_X6_106 {QX : String → sj_W → Prop} {Qc : Array Value → State → Outcome → State → Prop} {rmM : Room} (hC : sj_C G p l s m args c cc RX6 nL) (hD : sj_D meth c) (hH : sj_H G s w H locs) (hl : ls.size = nL) (d0 : decode cc pc = .ok (.new 65, 3)) (d3 : decode cc (pc + 3) = .ok (.dup, 1)) (d4 : decode cc (pc + 4) = .ok (.ldc 106, 2)) (d6 : decode cc (pc + 6) = .ok (.invokespecial 69, 3)) (d9 : decode cc (pc + 9) = .ok (.athrow, 1)) (hR : 5 < R.frames ∧ (rest.map fun v => v.category).sum + 82 ≤ R.locals) (hRc : cells + 1 ≤ R.cells ∧ slots + 6 ≤ R.slots) (hf : cells + 1 ≤ rmM.cells ∧ slots + 6 ≤ rmM.slots) (hq : QX "java/lang/IllegalArgumentException" w) : W p l e R s m args below meth c H locs cells slots (sj_MQ G below Qc QX args s rmM) (F0 m pc ls rest) :=
  sj_throw hC hD hH hl mb_138 mb_9 (sj_str (t := "a span tells nothing such") (List.mem_of_getElem? (i := 346) (by decide +kernel))) ex_X6_69.1 ex_X6_69.2 (by decide +kernel) d0 d3 d4 d6 d9 hR hRc hf hq
theorem pf_X0_11 (hC : sj_C G p l s m args c cc RX0 nL) (hH : sj_H G s w H locs) {a : Nat} {v : Nat} (hT : sj_T w a = 1) (hin : meth.name = "<init>") (hv : v ≠ 0) (hdg : decode cc pc = .ok (.putfield 11, 3)) (kk : ∀ (w1 : sj_W) (H : Heap) (locs : List Loc), w1 = sj_sA w 0 a v → sj_H G s w1 H locs → W p l e R s m args below meth c H locs cells slots Q (F0 m (pc + 3) ls rest)) : W p l e R s m args below meth c H locs cells slots Q (F0 m pc ls (.ref v :: .ref a :: rest)) :=
  sj_pfAF hC hH (ci := 0) (k := 0) (f := 0) tyX0 tyX0_ok nmX0 rfl in_X0 (by decide) (by decide) mb_36 (by decide) rfl rfl rfl hin rfl rfl rfl hT hv hdg (fun H1 locs1 h => kk _ H1 locs1 rfl h)
theorem pf_X0_16 (hC : sj_C G p l s m args c cc RX0 nL) (hH : sj_H G s w H locs) {a : Nat} {v : Nat} (hT : sj_T w a = 1) (hin : meth.name = "<init>") (hv : v ≠ 0) (hdg : decode cc pc = .ok (.putfield 16, 3)) (kk : ∀ (w1 : sj_W) (H : Heap) (locs : List Loc), w1 = sj_sA w 1 a v → sj_H G s w1 H locs → W p l e R s m args below meth c H locs cells slots Q (F0 m (pc + 3) ls rest)) : W p l e R s m args below meth c H locs cells slots Q (F0 m pc ls (.ref v :: .ref a :: rest)) :=
  sj_pfAF hC hH (ci := 0) (k := 1) (f := 1) tyX0 tyX0_ok nmX0 rfl in_X0 (by decide) (by decide) mb_38 (by decide) rfl rfl rfl hin rfl rfl rfl hT hv hdg (fun H1 locs1 h => kk _ H1 locs1 rfl h)
theorem pf_X0_19 (hC : sj_C G p l s m args c cc RX0 nL) (hH : sj_H G s w H locs) {a : Nat} {v : Nat} (hT : sj_T w a = 1) (hin : meth.name = "<init>") (hv : v ≠ 0) (hdg : decode cc pc = .ok (.putfield 19, 3)) (kk : ∀ (w1 : sj_W) (H : Heap) (locs : List Loc), w1 = sj_sA w 2 a v → sj_H G s w1 H locs → W p l e R s m args below meth c H locs cells slots Q (F0 m (pc + 3) ls rest)) : W p l e R s m args below meth c H locs cells slots Q (F0 m pc ls (.ref v :: .ref a :: rest)) :=
  sj_pfAF hC hH (ci := 0) (k := 2) (f := 2) tyX0 tyX0_ok nmX0 rfl in_X0 (by decide) (by decide) mb_39 (by decide) rfl rfl rfl hin rfl rfl rfl hT hv hdg (fun H1 locs1 h => kk _ H1 locs1 rfl h)
theorem pf_X0_23 (hC : sj_C G p l s m args c cc RX0 nL) (hH : sj_H G s w H locs) {a : Nat} {v : Nat} (hT : sj_T w a = 1) (hin : meth.name = "<init>") (hv : v ≠ 0) (hdg : decode cc pc = .ok (.putfield 23, 3)) (kk : ∀ (w1 : sj_W) (H : Heap) (locs : List Loc), w1 = sj_sA w 3 a v → sj_H G s w1 H locs → W p l e R s m args below meth c H locs cells slots Q (F0 m (pc + 3) ls rest)) : W p l e R s m args below meth c H locs cells slots Q (F0 m pc ls (.ref v :: .ref a :: rest)) :=
  sj_pfAF hC hH (ci := 0) (k := 3) (f := 3) tyX0 tyX0_ok nmX0 rfl in_X0 (by decide) (by decide) mb_42 (by decide) rfl rfl rfl hin rfl rfl rfl hT hv hdg (fun H1 locs1 h => kk _ H1 locs1 rfl h)
theorem pf_X1_9 (hC : sj_C G p l s m args c cc RX1 nL) (hH : sj_H G s w H locs) {a : Nat} {v : Nat} (hT : sj_T w a = 2) (hin : meth.name = "<init>") (hv : v ≠ 0) (hdg : decode cc pc = .ok (.putfield 9, 3)) (kk : ∀ (w1 : sj_W) (H : Heap) (locs : List Loc), w1 = sj_sA w 8 a v → sj_H G s w1 H locs → W p l e R s m args below meth c H locs cells slots Q (F0 m (pc + 3) ls rest)) : W p l e R s m args below meth c H locs cells slots Q (F0 m pc ls (.ref v :: .ref a :: rest)) :=
  sj_pfAF hC hH (ci := 1) (k := 0) (f := 8) tyX1 tyX1_ok nmX1 rfl in_X1 (by decide) (by decide) mb_76 (by decide) rfl rfl rfl hin rfl rfl rfl hT hv hdg (fun H1 locs1 h => kk _ H1 locs1 rfl h)
theorem pf_X6_11 (hC : sj_C G p l s m args c cc RX6 nL) (hH : sj_H G s w H locs) {a : Nat} {v : Nat} (hT : sj_T w a = 5) (hin : meth.name = "<init>") (hv : v ≠ 0) (hdg : decode cc pc = .ok (.putfield 11, 3)) (kk : ∀ (w1 : sj_W) (H : Heap) (locs : List Loc), w1 = sj_sA w 32 a v → sj_H G s w1 H locs → W p l e R s m args below meth c H locs cells slots Q (F0 m (pc + 3) ls rest)) : W p l e R s m args below meth c H locs cells slots Q (F0 m pc ls (.ref v :: .ref a :: rest)) :=
  sj_pfAF hC hH (ci := 4) (k := 0) (f := 32) tyX6 tyX6_ok nmX6 rfl in_X6 (by decide) (by decide) mb_103 (by decide) rfl rfl rfl hin rfl rfl rfl hT hv hdg (fun H1 locs1 h => kk _ H1 locs1 rfl h)
theorem pf_X6_17 (hC : sj_C G p l s m args c cc RX6 nL) (hH : sj_H G s w H locs) {a : Nat} {v : Nat} (hT : sj_T w a = 5) (hin : meth.name = "<init>") (hv : v ≠ 0) (hdg : decode cc pc = .ok (.putfield 17, 3)) (kk : ∀ (w1 : sj_W) (H : Heap) (locs : List Loc), w1 = sj_sA w 33 a v → sj_H G s w1 H locs → W p l e R s m args below meth c H locs cells slots Q (F0 m (pc + 3) ls rest)) : W p l e R s m args below meth c H locs cells slots Q (F0 m pc ls (.ref v :: .ref a :: rest)) :=
  sj_pfAF hC hH (ci := 4) (k := 1) (f := 33) tyX6 tyX6_ok nmX6 rfl in_X6 (by decide) (by decide) mb_104 (by decide) rfl rfl rfl hin rfl rfl rfl hT hv hdg (fun H1 locs1 h => kk _ H1 locs1 rfl h)
theorem pf_X6_21 (hC : sj_C G p l s m args c cc RX6 nL) (hH : sj_H G s w H locs) {a : Nat} {v : Nat} (hT : sj_T w a = 5) (hin : meth.name = "<init>") (hv : v ≠ 0) (hdg : decode cc pc = .ok (.putfield 21, 3)) (kk : ∀ (w1 : sj_W) (H : Heap) (locs : List Loc), w1 = sj_sA w 34 a v → sj_H G s w1 H locs → W p l e R s m args below meth c H locs cells slots Q (F0 m (pc + 3) ls rest)) : W p l e R s m args below meth c H locs cells slots Q (F0 m pc ls (.ref v :: .ref a :: rest)) :=
  sj_pfAF hC hH (ci := 4) (k := 2) (f := 34) tyX6 tyX6_ok nmX6 rfl in_X6 (by decide) (by decide) mb_105 (by decide) rfl rfl rfl hin rfl rfl rfl hT hv hdg (fun H1 locs1 h => kk _ H1 locs1 rfl h)
theorem nw_X6_25 (hC : sj_C G p l s m args c cc RX6 nL) (hH : sj_H G s w H locs) (hcells : cells + 1 ≤ R.cells) (hslots : slots + 8 ≤ R.slots) (hdg : decode cc pc = .ok (.new 25, 3)) (kk : ∀ (q : Nat) (w1 : sj_W) (H : Heap), q ≠ 0 → sj_T w q = 0 → w1 = sj_nw w q 1 0 → sj_H G s w1 H locs → W p l e R s m args below meth c H locs (cells + 1) (slots + 8) Q (F0 m (pc + 3) ls (.ref q :: rest))) : W p l e R s m args below meth c H locs cells slots Q (F0 m pc ls rest) :=
  sj_newO hC hH (ci := 0) tyX0 rfl (by decide) in_X0 tyX0_ok mb_28 mb_29 mb_2 (fun j hj => by match j, hj with | 0, _ => rfl | 1, _ => rfl | 2, _ => rfl | 3, _ => rfl | 4, _ => rfl | 5, _ => rfl | 6, _ => rfl | 7, _ => rfl) hcells hslots hdg (fun q H1 h1 h2 h => kk q _ H1 h1 h2 rfl h)
theorem pf_X6_28 (hC : sj_C G p l s m args c cc RX6 nL) (hH : sj_H G s w H locs) {a : Nat} {v : Nat} (hT : sj_T w a = 5) (hin : meth.name = "<init>") (hv : v ≠ 0) (hdg : decode cc pc = .ok (.putfield 28, 3)) (kk : ∀ (w1 : sj_W) (H : Heap) (locs : List Loc), w1 = sj_sA w 35 a v → sj_H G s w1 H locs → W p l e R s m args below meth c H locs cells slots Q (F0 m (pc + 3) ls rest)) : W p l e R s m args below meth c H locs cells slots Q (F0 m pc ls (.ref v :: .ref a :: rest)) :=
  sj_pfAF hC hH (ci := 4) (k := 3) (f := 35) tyX6 tyX6_ok nmX6 rfl in_X6 (by decide) (by decide) mb_106 (by decide) rfl rfl rfl hin rfl rfl rfl hT hv hdg (fun H1 locs1 h => kk _ H1 locs1 rfl h)
theorem nw_X6_9 (hC : sj_C G p l s m args c cc RX6 nL) (hH : sj_H G s w H locs) (hcells : cells + 1 ≤ R.cells) (hslots : slots + 2 ≤ R.slots) (hdg : decode cc pc = .ok (.new 9, 3)) (kk : ∀ (q : Nat) (w1 : sj_W) (H : Heap), q ≠ 0 → sj_T w q = 0 → w1 = sj_nw w q 2 0 → sj_H G s w1 H locs → W p l e R s m args below meth c H locs (cells + 1) (slots + 2) Q (F0 m (pc + 3) ls (.ref q :: rest))) : W p l e R s m args below meth c H locs cells slots Q (F0 m pc ls rest) :=
  sj_newO hC hH (ci := 1) tyX1 rfl (by decide) in_X1 tyX1_ok mb_24 mb_71 mb_3 (fun j hj => by match j, hj with | 0, _ => rfl | 1, _ => rfl) hcells hslots hdg (fun q H1 h1 h2 h => kk q _ H1 h1 h2 rfl h)
theorem nw_X6_15 (hC : sj_C G p l s m args c cc RX6 nL) (hH : sj_H G s w H locs) (hcells : cells + 1 ≤ R.cells) (hslots : slots + 3 ≤ R.slots) (hdg : decode cc pc = .ok (.new 15, 3)) (kk : ∀ (q : Nat) (w1 : sj_W) (H : Heap), q ≠ 0 → sj_T w q = 0 → w1 = sj_nw w q 3 0 → sj_H G s w1 H locs → W p l e R s m args below meth c H locs (cells + 1) (slots + 3) Q (F0 m (pc + 3) ls (.ref q :: rest))) : W p l e R s m args below meth c H locs cells slots Q (F0 m pc ls rest) :=
  sj_newO hC hH (ci := 2) tyX3 rfl (by decide) in_X3 tyX3_ok mb_26 mb_88 mb_4 (fun j hj => by match j, hj with | 0, _ => rfl | 1, _ => rfl | 2, _ => rfl) hcells hslots hdg (fun q H1 h1 h2 h => kk q _ H1 h1 h2 rfl h)
theorem gf_X7_7 (hC : sj_C G p l s m args c cc RX7 nL) (hH : sj_H G s w H locs) {a : Nat} (hT : sj_T w a = 6) (hn : sj_A w 40 a ≠ 0) (hdg : decode cc pc = .ok (.getfield 7, 3)) (kk : W p l e R s m args below meth c H locs cells slots Q (F0 m (pc + 3) ls (.ref (sj_A w 40 a) :: rest))) : W p l e R s m args below meth c H locs cells slots Q (F0 m pc ls (.ref a :: rest)) :=
  sj_gf hC hH (ci := 5) (k := 0) rfl in_X7 (by decide) (by decide) mb_710 (by decide) (sj_fvA rfl rfl hn) hT hdg kk
theorem gf_X7_13 (hC : sj_C G p l s m args c cc RX7 nL) (hH : sj_H G s w H locs) {a : Nat} (hT : sj_T w a = 6) (hn : sj_A w 41 a ≠ 0) (hdg : decode cc pc = .ok (.getfield 13, 3)) (kk : W p l e R s m args below meth c H locs cells slots Q (F0 m (pc + 3) ls (.ref (sj_A w 41 a) :: rest))) : W p l e R s m args below meth c H locs cells slots Q (F0 m pc ls (.ref a :: rest)) :=
  sj_gf hC hH (ci := 5) (k := 1) rfl in_X7 (by decide) (by decide) mb_711 (by decide) (sj_fvA rfl rfl hn) hT hdg kk
theorem pf_X7_29 (hC : sj_C G p l s m args c cc RX7 nL) (hH : sj_H G s w H locs) {a : Nat} {v : Int32} (hT : sj_T w a = 6) (hdg : decode cc pc = .ok (.putfield 29, 3)) (kk : ∀ (w1 : sj_W) (H : Heap) (locs : List Loc), w1 = sj_sI w 47 a v → sj_H G s w1 H locs → W p l e R s m args below meth c H locs cells slots Q (F0 m (pc + 3) ls rest)) : W p l e R s m args below meth c H locs cells slots Q (F0 m pc ls (.int v :: .ref a :: rest)) :=
  sj_pfI hC hH (ci := 5) (k := 7) (f := 47) tyX7 tyX7_ok nmX7 rfl in_X7 (by decide) (by decide) mb_717 (by decide) rfl rfl rfl rfl rfl rfl hT hdg (fun H1 locs1 h => kk _ H1 locs1 rfl h)
theorem gf_X7_23 (hC : sj_C G p l s m args c cc RX7 nL) (hH : sj_H G s w H locs) {a : Nat} (hT : sj_T w a = 6) (hn : sj_A w 44 a ≠ 0) (hdg : decode cc pc = .ok (.getfield 23, 3)) (kk : W p l e R s m args below meth c H locs cells slots Q (F0 m (pc + 3) ls (.ref (sj_A w 44 a) :: rest))) : W p l e R s m args below meth c H locs cells slots Q (F0 m pc ls (.ref a :: rest)) :=
  sj_gf hC hH (ci := 5) (k := 4) rfl in_X7 (by decide) (by decide) mb_714 (by decide) (sj_fvA rfl rfl hn) hT hdg kk
theorem gf_X7_17 (hC : sj_C G p l s m args c cc RX7 nL) (hH : sj_H G s w H locs) {a : Nat} (hT : sj_T w a = 6) (hn : sj_A w 42 a ≠ 0) (hdg : decode cc pc = .ok (.getfield 17, 3)) (kk : W p l e R s m args below meth c H locs cells slots Q (F0 m (pc + 3) ls (.ref (sj_A w 42 a) :: rest))) : W p l e R s m args below meth c H locs cells slots Q (F0 m pc ls (.ref a :: rest)) :=
  sj_gf hC hH (ci := 5) (k := 2) rfl in_X7 (by decide) (by decide) mb_712 (by decide) (sj_fvA rfl rfl hn) hT hdg kk
theorem gf_X7_20 (hC : sj_C G p l s m args c cc RX7 nL) (hH : sj_H G s w H locs) {a : Nat} (hT : sj_T w a = 6) (hn : sj_A w 43 a ≠ 0) (hdg : decode cc pc = .ok (.getfield 20, 3)) (kk : W p l e R s m args below meth c H locs cells slots Q (F0 m (pc + 3) ls (.ref (sj_A w 43 a) :: rest))) : W p l e R s m args below meth c H locs cells slots Q (F0 m pc ls (.ref a :: rest)) :=
  sj_gf hC hH (ci := 5) (k := 3) rfl in_X7 (by decide) (by decide) mb_713 (by decide) (sj_fvA rfl rfl hn) hT hdg kk
theorem gf_X7_147 (hC : sj_C G p l s m args c cc RX7 nL) (hH : sj_H G s w H locs) {a : Nat} (hT : sj_T w a = 6) (hdg : decode cc pc = .ok (.getfield 147, 3)) (kk : W p l e R s m args below meth c H locs cells slots Q (F0 m (pc + 3) ls (.int (sj_I w 46 a) :: rest))) : W p l e R s m args below meth c H locs cells slots Q (F0 m pc ls (.ref a :: rest)) :=
  sj_gf hC hH (ci := 5) (k := 6) rfl in_X7 (by decide) (by decide) mb_716 (by decide) (sj_fvI rfl rfl) hT hdg kk
theorem gf_X7_26 (hC : sj_C G p l s m args c cc RX7 nL) (hH : sj_H G s w H locs) {a : Nat} (hT : sj_T w a = 6) (hn : sj_A w 45 a ≠ 0) (hdg : decode cc pc = .ok (.getfield 26, 3)) (kk : W p l e R s m args below meth c H locs cells slots Q (F0 m (pc + 3) ls (.ref (sj_A w 45 a) :: rest))) : W p l e R s m args below meth c H locs cells slots Q (F0 m pc ls (.ref a :: rest)) :=
  sj_gf hC hH (ci := 5) (k := 5) rfl in_X7 (by decide) (by decide) mb_715 (by decide) (sj_fvA rfl rfl hn) hT hdg kk
theorem pf_X7_7 (hC : sj_C G p l s m args c cc RX7 nL) (hH : sj_H G s w H locs) {a : Nat} {v : Nat} (hT : sj_T w a = 6) (hin : meth.name = "<init>") (hv : v ≠ 0) (hdg : decode cc pc = .ok (.putfield 7, 3)) (kk : ∀ (w1 : sj_W) (H : Heap) (locs : List Loc), w1 = sj_sA w 40 a v → sj_H G s w1 H locs → W p l e R s m args below meth c H locs cells slots Q (F0 m (pc + 3) ls rest)) : W p l e R s m args below meth c H locs cells slots Q (F0 m pc ls (.ref v :: .ref a :: rest)) :=
  sj_pfAF hC hH (ci := 5) (k := 0) (f := 40) tyX7 tyX7_ok nmX7 rfl in_X7 (by decide) (by decide) mb_710 (by decide) rfl rfl rfl hin rfl rfl rfl hT hv hdg (fun H1 locs1 h => kk _ H1 locs1 rfl h)
theorem pf_X7_13 (hC : sj_C G p l s m args c cc RX7 nL) (hH : sj_H G s w H locs) {a : Nat} {v : Nat} (hT : sj_T w a = 6) (hin : meth.name = "<init>") (hv : v ≠ 0) (hdg : decode cc pc = .ok (.putfield 13, 3)) (kk : ∀ (w1 : sj_W) (H : Heap) (locs : List Loc), w1 = sj_sA w 41 a v → sj_H G s w1 H locs → W p l e R s m args below meth c H locs cells slots Q (F0 m (pc + 3) ls rest)) : W p l e R s m args below meth c H locs cells slots Q (F0 m pc ls (.ref v :: .ref a :: rest)) :=
  sj_pfAF hC hH (ci := 5) (k := 1) (f := 41) tyX7 tyX7_ok nmX7 rfl in_X7 (by decide) (by decide) mb_711 (by decide) rfl rfl rfl hin rfl rfl rfl hT hv hdg (fun H1 locs1 h => kk _ H1 locs1 rfl h)
theorem pf_X7_17 (hC : sj_C G p l s m args c cc RX7 nL) (hH : sj_H G s w H locs) {a : Nat} {v : Nat} (hT : sj_T w a = 6) (hin : meth.name = "<init>") (hv : v ≠ 0) (hdg : decode cc pc = .ok (.putfield 17, 3)) (kk : ∀ (w1 : sj_W) (H : Heap) (locs : List Loc), w1 = sj_sA w 42 a v → sj_H G s w1 H locs → W p l e R s m args below meth c H locs cells slots Q (F0 m (pc + 3) ls rest)) : W p l e R s m args below meth c H locs cells slots Q (F0 m pc ls (.ref v :: .ref a :: rest)) :=
  sj_pfAF hC hH (ci := 5) (k := 2) (f := 42) tyX7 tyX7_ok nmX7 rfl in_X7 (by decide) (by decide) mb_712 (by decide) rfl rfl rfl hin rfl rfl rfl hT hv hdg (fun H1 locs1 h => kk _ H1 locs1 rfl h)
theorem pf_X7_20 (hC : sj_C G p l s m args c cc RX7 nL) (hH : sj_H G s w H locs) {a : Nat} {v : Nat} (hT : sj_T w a = 6) (hin : meth.name = "<init>") (hv : v ≠ 0) (hdg : decode cc pc = .ok (.putfield 20, 3)) (kk : ∀ (w1 : sj_W) (H : Heap) (locs : List Loc), w1 = sj_sA w 43 a v → sj_H G s w1 H locs → W p l e R s m args below meth c H locs cells slots Q (F0 m (pc + 3) ls rest)) : W p l e R s m args below meth c H locs cells slots Q (F0 m pc ls (.ref v :: .ref a :: rest)) :=
  sj_pfAF hC hH (ci := 5) (k := 3) (f := 43) tyX7 tyX7_ok nmX7 rfl in_X7 (by decide) (by decide) mb_713 (by decide) rfl rfl rfl hin rfl rfl rfl hT hv hdg (fun H1 locs1 h => kk _ H1 locs1 rfl h)
theorem pf_X7_23 (hC : sj_C G p l s m args c cc RX7 nL) (hH : sj_H G s w H locs) {a : Nat} {v : Nat} (hT : sj_T w a = 6) (hin : meth.name = "<init>") (hv : v ≠ 0) (hdg : decode cc pc = .ok (.putfield 23, 3)) (kk : ∀ (w1 : sj_W) (H : Heap) (locs : List Loc), w1 = sj_sA w 44 a v → sj_H G s w1 H locs → W p l e R s m args below meth c H locs cells slots Q (F0 m (pc + 3) ls rest)) : W p l e R s m args below meth c H locs cells slots Q (F0 m pc ls (.ref v :: .ref a :: rest)) :=
  sj_pfAF hC hH (ci := 5) (k := 4) (f := 44) tyX7 tyX7_ok nmX7 rfl in_X7 (by decide) (by decide) mb_714 (by decide) rfl rfl rfl hin rfl rfl rfl hT hv hdg (fun H1 locs1 h => kk _ H1 locs1 rfl h)
theorem pf_X7_26 (hC : sj_C G p l s m args c cc RX7 nL) (hH : sj_H G s w H locs) {a : Nat} {v : Nat} (hT : sj_T w a = 6) (hin : meth.name = "<init>") (hv : v ≠ 0) (hdg : decode cc pc = .ok (.putfield 26, 3)) (kk : ∀ (w1 : sj_W) (H : Heap) (locs : List Loc), w1 = sj_sA w 45 a v → sj_H G s w1 H locs → W p l e R s m args below meth c H locs cells slots Q (F0 m (pc + 3) ls rest)) : W p l e R s m args below meth c H locs cells slots Q (F0 m pc ls (.ref v :: .ref a :: rest)) :=
  sj_pfAF hC hH (ci := 5) (k := 5) (f := 45) tyX7 tyX7_ok nmX7 rfl in_X7 (by decide) (by decide) mb_715 (by decide) rfl rfl rfl hin rfl rfl rfl hT hv hdg (fun H1 locs1 h => kk _ H1 locs1 rfl h)
theorem pf_X7_147 (hC : sj_C G p l s m args c cc RX7 nL) (hH : sj_H G s w H locs) {a : Nat} {v : Int32} (hT : sj_T w a = 6) (hdg : decode cc pc = .ok (.putfield 147, 3)) (kk : ∀ (w1 : sj_W) (H : Heap) (locs : List Loc), w1 = sj_sI w 46 a v → sj_H G s w1 H locs → W p l e R s m args below meth c H locs cells slots Q (F0 m (pc + 3) ls rest)) : W p l e R s m args below meth c H locs cells slots Q (F0 m pc ls (.int v :: .ref a :: rest)) :=
  sj_pfI hC hH (ci := 5) (k := 6) (f := 46) tyX7 tyX7_ok nmX7 rfl in_X7 (by decide) (by decide) mb_716 (by decide) rfl rfl rfl rfl rfl rfl hT hdg (fun H1 locs1 h => kk _ H1 locs1 rfl h)
theorem gf_X7_29 (hC : sj_C G p l s m args c cc RX7 nL) (hH : sj_H G s w H locs) {a : Nat} (hT : sj_T w a = 6) (hdg : decode cc pc = .ok (.getfield 29, 3)) (kk : W p l e R s m args below meth c H locs cells slots Q (F0 m (pc + 3) ls (.int (sj_I w 47 a) :: rest))) : W p l e R s m args below meth c H locs cells slots Q (F0 m pc ls (.ref a :: rest)) :=
  sj_gf hC hH (ci := 5) (k := 7) rfl in_X7 (by decide) (by decide) mb_717 (by decide) (sj_fvI rfl rfl) hT hdg kk
end SJL
end
