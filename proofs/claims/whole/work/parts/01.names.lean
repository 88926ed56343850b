-- ===== PART A: goes FIRST, ahead of the names: the tables' words, and 'selects' of the private methods out of them =====
/-- a private method of a class that the tables say can be made, by its rows of tables_1 -/
def lw_okq (q : MethodName × Nat) : Prop := (q.1.cls ≠ "java/lang/invoke/MethodHandle" ∧ q.1.cls ≠ "java/lang/invoke/VarHandle") ∧ Cond.instantiable q.1.cls q.2 ∈ tables_1 ∧ Cond.privateMethod q.1 ∈ tables_1 ∧ Cond.instanceMethod q.1 ∈ tables_1
theorem lw_p0 : lw_okq (⟨"SidePonds$Tape", "addWord", "(II)I"⟩, 7) := ⟨⟨by decide +kernel, by decide +kernel⟩, List.mem_of_getElem? (i := 40) (by decide +kernel), List.mem_of_getElem? (i := 530) (by decide +kernel), List.mem_of_getElem? (i := 531) (by decide +kernel)⟩
theorem lw_p1 : lw_okq (⟨"SidePonds$Tape", "add", "(III)V"⟩, 7) := ⟨⟨by decide +kernel, by decide +kernel⟩, List.mem_of_getElem? (i := 40) (by decide +kernel), List.mem_of_getElem? (i := 589) (by decide +kernel), List.mem_of_getElem? (i := 590) (by decide +kernel)⟩
theorem lw_p2 : lw_okq (⟨"SidePonds$Tape", "addNumber", "(II)I"⟩, 7) := ⟨⟨by decide +kernel, by decide +kernel⟩, List.mem_of_getElem? (i := 40) (by decide +kernel), List.mem_of_getElem? (i := 596) (by decide +kernel), List.mem_of_getElem? (i := 597) (by decide +kernel)⟩
theorem lw_p3 : lw_okq (⟨"SidePonds$Tape", "addSign", "(II)I"⟩, 7) := ⟨⟨by decide +kernel, by decide +kernel⟩, List.mem_of_getElem? (i := 40) (by decide +kernel), List.mem_of_getElem? (i := 601) (by decide +kernel), List.mem_of_getElem? (i := 602) (by decide +kernel)⟩
theorem lw_p4 : lw_okq (⟨"SidePonds$Reader", "readLine", "()V"⟩, 10) := ⟨⟨by decide +kernel, by decide +kernel⟩, List.mem_of_getElem? (i := 34) (by decide +kernel), List.mem_of_getElem? (i := 670) (by decide +kernel), List.mem_of_getElem? (i := 671) (by decide +kernel)⟩
theorem lw_p5 : lw_okq (⟨"SidePonds$Reader", "fail", "(II)V"⟩, 10) := ⟨⟨by decide +kernel, by decide +kernel⟩, List.mem_of_getElem? (i := 34) (by decide +kernel), List.mem_of_getElem? (i := 678) (by decide +kernel), List.mem_of_getElem? (i := 679) (by decide +kernel)⟩
theorem lw_p6 : lw_okq (⟨"SidePonds$Reader", "readPond", "()V"⟩, 10) := ⟨⟨by decide +kernel, by decide +kernel⟩, List.mem_of_getElem? (i := 34) (by decide +kernel), List.mem_of_getElem? (i := 690) (by decide +kernel), List.mem_of_getElem? (i := 691) (by decide +kernel)⟩
theorem lw_p7 : lw_okq (⟨"SidePonds$Reader", "ownWord", "()I"⟩, 10) := ⟨⟨by decide +kernel, by decide +kernel⟩, List.mem_of_getElem? (i := 34) (by decide +kernel), List.mem_of_getElem? (i := 694) (by decide +kernel), List.mem_of_getElem? (i := 695) (by decide +kernel)⟩
theorem lw_p8 : lw_okq (⟨"SidePonds$Reader", "take", "(I)V"⟩, 10) := ⟨⟨by decide +kernel, by decide +kernel⟩, List.mem_of_getElem? (i := 34) (by decide +kernel), List.mem_of_getElem? (i := 702) (by decide +kernel), List.mem_of_getElem? (i := 703) (by decide +kernel)⟩
theorem lw_p9 : lw_okq (⟨"SidePonds$Reader", "number", "(II)I"⟩, 10) := ⟨⟨by decide +kernel, by decide +kernel⟩, List.mem_of_getElem? (i := 34) (by decide +kernel), List.mem_of_getElem? (i := 710) (by decide +kernel), List.mem_of_getElem? (i := 711) (by decide +kernel)⟩
theorem lw_p10 : lw_okq (⟨"SidePonds$Reader", "readLock", "()V"⟩, 10) := ⟨⟨by decide +kernel, by decide +kernel⟩, List.mem_of_getElem? (i := 34) (by decide +kernel), List.mem_of_getElem? (i := 718) (by decide +kernel), List.mem_of_getElem? (i := 719) (by decide +kernel)⟩
theorem lw_p11 : lw_okq (⟨"SidePonds$Reader", "toldPond", "()I"⟩, 10) := ⟨⟨by decide +kernel, by decide +kernel⟩, List.mem_of_getElem? (i := 34) (by decide +kernel), List.mem_of_getElem? (i := 722) (by decide +kernel), List.mem_of_getElem? (i := 723) (by decide +kernel)⟩
theorem lw_p12 : lw_okq (⟨"SidePonds$Reader", "readPipe", "()V"⟩, 10) := ⟨⟨by decide +kernel, by decide +kernel⟩, List.mem_of_getElem? (i := 34) (by decide +kernel), List.mem_of_getElem? (i := 734) (by decide +kernel), List.mem_of_getElem? (i := 735) (by decide +kernel)⟩
theorem lw_p13 : lw_okq (⟨"SidePonds$Reader", "readTurn", "()V"⟩, 10) := ⟨⟨by decide +kernel, by decide +kernel⟩, List.mem_of_getElem? (i := 34) (by decide +kernel), List.mem_of_getElem? (i := 746) (by decide +kernel), List.mem_of_getElem? (i := 747) (by decide +kernel)⟩
theorem lw_p14 : lw_okq (⟨"SidePonds$Reader", "readBoat", "()V"⟩, 10) := ⟨⟨by decide +kernel, by decide +kernel⟩, List.mem_of_getElem? (i := 34) (by decide +kernel), List.mem_of_getElem? (i := 754) (by decide +kernel), List.mem_of_getElem? (i := 755) (by decide +kernel)⟩
theorem lw_p15 : lw_okq (⟨"SidePonds$Reader", "readSpring", "()V"⟩, 10) := ⟨⟨by decide +kernel, by decide +kernel⟩, List.mem_of_getElem? (i := 34) (by decide +kernel), List.mem_of_getElem? (i := 762) (by decide +kernel), List.mem_of_getElem? (i := 763) (by decide +kernel)⟩
def lw_privs_1 : List (MethodName × Nat) := [(⟨"SidePonds$Tape", "addWord", "(II)I"⟩, 7), (⟨"SidePonds$Tape", "add", "(III)V"⟩, 7), (⟨"SidePonds$Tape", "addNumber", "(II)I"⟩, 7), (⟨"SidePonds$Tape", "addSign", "(II)I"⟩, 7), (⟨"SidePonds$Reader", "readLine", "()V"⟩, 10), (⟨"SidePonds$Reader", "fail", "(II)V"⟩, 10), (⟨"SidePonds$Reader", "readPond", "()V"⟩, 10), (⟨"SidePonds$Reader", "ownWord", "()I"⟩, 10), (⟨"SidePonds$Reader", "take", "(I)V"⟩, 10), (⟨"SidePonds$Reader", "number", "(II)I"⟩, 10), (⟨"SidePonds$Reader", "readLock", "()V"⟩, 10), (⟨"SidePonds$Reader", "toldPond", "()I"⟩, 10), (⟨"SidePonds$Reader", "readPipe", "()V"⟩, 10), (⟨"SidePonds$Reader", "readTurn", "()V"⟩, 10), (⟨"SidePonds$Reader", "readBoat", "()V"⟩, 10), (⟨"SidePonds$Reader", "readSpring", "()V"⟩, 10)]
theorem lw_r1 : ∀ q ∈ lw_privs_1, lw_okq q := List.forall_mem_cons.mpr ⟨lw_p0, List.forall_mem_cons.mpr ⟨lw_p1, List.forall_mem_cons.mpr ⟨lw_p2, List.forall_mem_cons.mpr ⟨lw_p3, List.forall_mem_cons.mpr ⟨lw_p4, List.forall_mem_cons.mpr ⟨lw_p5, List.forall_mem_cons.mpr ⟨lw_p6, List.forall_mem_cons.mpr ⟨lw_p7, List.forall_mem_cons.mpr ⟨lw_p8, List.forall_mem_cons.mpr ⟨lw_p9, List.forall_mem_cons.mpr ⟨lw_p10, List.forall_mem_cons.mpr ⟨lw_p11, List.forall_mem_cons.mpr ⟨lw_p12, List.forall_mem_cons.mpr ⟨lw_p13, List.forall_mem_cons.mpr ⟨lw_p14, List.forall_mem_cons.mpr ⟨lw_p15, fun _ h => absurd h List.not_mem_nil⟩⟩⟩⟩⟩⟩⟩⟩⟩⟩⟩⟩⟩⟩⟩⟩
theorem lw_p16 : lw_okq (⟨"SidePonds$Reader", "readJam", "()V"⟩, 10) := ⟨⟨by decide +kernel, by decide +kernel⟩, List.mem_of_getElem? (i := 34) (by decide +kernel), List.mem_of_getElem? (i := 766) (by decide +kernel), List.mem_of_getElem? (i := 767) (by decide +kernel)⟩
theorem lw_p17 : lw_okq (⟨"SidePonds$Reader", "readSeed", "()V"⟩, 10) := ⟨⟨by decide +kernel, by decide +kernel⟩, List.mem_of_getElem? (i := 34) (by decide +kernel), List.mem_of_getElem? (i := 770) (by decide +kernel), List.mem_of_getElem? (i := 771) (by decide +kernel)⟩
theorem lw_p18 : lw_okq (⟨"SidePonds$Reader", "readLaw", "()V"⟩, 10) := ⟨⟨by decide +kernel, by decide +kernel⟩, List.mem_of_getElem? (i := 34) (by decide +kernel), List.mem_of_getElem? (i := 775) (by decide +kernel), List.mem_of_getElem? (i := 776) (by decide +kernel)⟩
theorem lw_p19 : lw_okq (⟨"SidePonds$Reader", "readRanked", "(I)V"⟩, 10) := ⟨⟨by decide +kernel, by decide +kernel⟩, List.mem_of_getElem? (i := 34) (by decide +kernel), List.mem_of_getElem? (i := 787) (by decide +kernel), List.mem_of_getElem? (i := 788) (by decide +kernel)⟩
theorem lw_p20 : lw_okq (⟨"SidePonds$Reader", "readPart", "()V"⟩, 10) := ⟨⟨by decide +kernel, by decide +kernel⟩, List.mem_of_getElem? (i := 34) (by decide +kernel), List.mem_of_getElem? (i := 791) (by decide +kernel), List.mem_of_getElem? (i := 792) (by decide +kernel)⟩
theorem lw_p21 : lw_okq (⟨"SidePonds$Reader", "takeKnot", "()V"⟩, 10) := ⟨⟨by decide +kernel, by decide +kernel⟩, List.mem_of_getElem? (i := 34) (by decide +kernel), List.mem_of_getElem? (i := 795) (by decide +kernel), List.mem_of_getElem? (i := 796) (by decide +kernel)⟩
theorem lw_p22 : lw_okq (⟨"SidePonds$Reader", "readDenied", "()V"⟩, 10) := ⟨⟨by decide +kernel, by decide +kernel⟩, List.mem_of_getElem? (i := 34) (by decide +kernel), List.mem_of_getElem? (i := 803) (by decide +kernel), List.mem_of_getElem? (i := 804) (by decide +kernel)⟩
theorem lw_p23 : lw_okq (⟨"SidePonds", "isPond", "(I)Z"⟩, 13) := ⟨⟨by decide +kernel, by decide +kernel⟩, List.mem_of_getElem? (i := 26) (by decide +kernel), List.mem_of_getElem? (i := 840) (by decide +kernel), List.mem_of_getElem? (i := 841) (by decide +kernel)⟩
theorem lw_p24 : lw_okq (⟨"SidePonds", "isPipe", "(I)Z"⟩, 13) := ⟨⟨by decide +kernel, by decide +kernel⟩, List.mem_of_getElem? (i := 26) (by decide +kernel), List.mem_of_getElem? (i := 859) (by decide +kernel), List.mem_of_getElem? (i := 860) (by decide +kernel)⟩
theorem lw_p25 : lw_okq (⟨"SidePonds", "isLock", "(I)Z"⟩, 13) := ⟨⟨by decide +kernel, by decide +kernel⟩, List.mem_of_getElem? (i := 26) (by decide +kernel), List.mem_of_getElem? (i := 883) (by decide +kernel), List.mem_of_getElem? (i := 884) (by decide +kernel)⟩
theorem lw_p26 : lw_okq (⟨"SidePonds", "isBoat", "(I)Z"⟩, 13) := ⟨⟨by decide +kernel, by decide +kernel⟩, List.mem_of_getElem? (i := 26) (by decide +kernel), List.mem_of_getElem? (i := 898) (by decide +kernel), List.mem_of_getElem? (i := 899) (by decide +kernel)⟩
theorem lw_p27 : lw_okq (⟨"SidePonds$Minutes", "letSprings", "(LSidePonds$Scene;)V"⟩, 9) := ⟨⟨by decide +kernel, by decide +kernel⟩, List.mem_of_getElem? (i := 327) (by decide +kernel), List.mem_of_getElem? (i := 1023) (by decide +kernel), List.mem_of_getElem? (i := 1024) (by decide +kernel)⟩
theorem lw_p28 : lw_okq (⟨"SidePonds$Minutes", "letPipes", "(LSidePonds$Scene;)V"⟩, 9) := ⟨⟨by decide +kernel, by decide +kernel⟩, List.mem_of_getElem? (i := 327) (by decide +kernel), List.mem_of_getElem? (i := 1028) (by decide +kernel), List.mem_of_getElem? (i := 1029) (by decide +kernel)⟩
theorem lw_p29 : lw_okq (⟨"SidePonds$Minutes", "jamsNow", "(LSidePonds$Scene;)Z"⟩, 9) := ⟨⟨by decide +kernel, by decide +kernel⟩, List.mem_of_getElem? (i := 327) (by decide +kernel), List.mem_of_getElem? (i := 1044) (by decide +kernel), List.mem_of_getElem? (i := 1045) (by decide +kernel)⟩
theorem lw_p30 : lw_okq (⟨"SidePonds$Minutes", "letLeaks", "(LSidePonds$Scene;)V"⟩, 9) := ⟨⟨by decide +kernel, by decide +kernel⟩, List.mem_of_getElem? (i := 327) (by decide +kernel), List.mem_of_getElem? (i := 1055) (by decide +kernel), List.mem_of_getElem? (i := 1056) (by decide +kernel)⟩
theorem lw_p31 : lw_okq (⟨"SidePonds$Minutes", "letBoats", "(LSidePonds$Scene;)V"⟩, 9) := ⟨⟨by decide +kernel, by decide +kernel⟩, List.mem_of_getElem? (i := 327) (by decide +kernel), List.mem_of_getElem? (i := 1060) (by decide +kernel), List.mem_of_getElem? (i := 1061) (by decide +kernel)⟩
def lw_privs_2 : List (MethodName × Nat) := [(⟨"SidePonds$Reader", "readJam", "()V"⟩, 10), (⟨"SidePonds$Reader", "readSeed", "()V"⟩, 10), (⟨"SidePonds$Reader", "readLaw", "()V"⟩, 10), (⟨"SidePonds$Reader", "readRanked", "(I)V"⟩, 10), (⟨"SidePonds$Reader", "readPart", "()V"⟩, 10), (⟨"SidePonds$Reader", "takeKnot", "()V"⟩, 10), (⟨"SidePonds$Reader", "readDenied", "()V"⟩, 10), (⟨"SidePonds", "isPond", "(I)Z"⟩, 13), (⟨"SidePonds", "isPipe", "(I)Z"⟩, 13), (⟨"SidePonds", "isLock", "(I)Z"⟩, 13), (⟨"SidePonds", "isBoat", "(I)Z"⟩, 13), (⟨"SidePonds$Minutes", "letSprings", "(LSidePonds$Scene;)V"⟩, 9), (⟨"SidePonds$Minutes", "letPipes", "(LSidePonds$Scene;)V"⟩, 9), (⟨"SidePonds$Minutes", "jamsNow", "(LSidePonds$Scene;)Z"⟩, 9), (⟨"SidePonds$Minutes", "letLeaks", "(LSidePonds$Scene;)V"⟩, 9), (⟨"SidePonds$Minutes", "letBoats", "(LSidePonds$Scene;)V"⟩, 9)]
theorem lw_r2 : ∀ q ∈ lw_privs_2, lw_okq q := List.forall_mem_cons.mpr ⟨lw_p16, List.forall_mem_cons.mpr ⟨lw_p17, List.forall_mem_cons.mpr ⟨lw_p18, List.forall_mem_cons.mpr ⟨lw_p19, List.forall_mem_cons.mpr ⟨lw_p20, List.forall_mem_cons.mpr ⟨lw_p21, List.forall_mem_cons.mpr ⟨lw_p22, List.forall_mem_cons.mpr ⟨lw_p23, List.forall_mem_cons.mpr ⟨lw_p24, List.forall_mem_cons.mpr ⟨lw_p25, List.forall_mem_cons.mpr ⟨lw_p26, List.forall_mem_cons.mpr ⟨lw_p27, List.forall_mem_cons.mpr ⟨lw_p28, List.forall_mem_cons.mpr ⟨lw_p29, List.forall_mem_cons.mpr ⟨lw_p30, List.forall_mem_cons.mpr ⟨lw_p31, fun _ h => absurd h List.not_mem_nil⟩⟩⟩⟩⟩⟩⟩⟩⟩⟩⟩⟩⟩⟩⟩⟩
theorem lw_p32 : lw_okq (⟨"SidePonds$Openings", "open", "(LSidePonds$Scene;II)V"⟩, 7) := ⟨⟨by decide +kernel, by decide +kernel⟩, List.mem_of_getElem? (i := 369) (by decide +kernel), List.mem_of_getElem? (i := 1150) (by decide +kernel), List.mem_of_getElem? (i := 1151) (by decide +kernel)⟩
theorem lw_p33 : lw_okq (⟨"SidePonds$Openings", "note", "(III)V"⟩, 7) := ⟨⟨by decide +kernel, by decide +kernel⟩, List.mem_of_getElem? (i := 369) (by decide +kernel), List.mem_of_getElem? (i := 1155) (by decide +kernel), List.mem_of_getElem? (i := 1156) (by decide +kernel)⟩
theorem lw_p34 : lw_okq (⟨"SidePonds", "isRest", "(III)Z"⟩, 13) := ⟨⟨by decide +kernel, by decide +kernel⟩, List.mem_of_getElem? (i := 26) (by decide +kernel), List.mem_of_getElem? (i := 1221) (by decide +kernel), List.mem_of_getElem? (i := 1222) (by decide +kernel)⟩
theorem lw_p35 : lw_okq (⟨"SidePonds$Facts", "counts", "(I)Z"⟩, 7) := ⟨⟨by decide +kernel, by decide +kernel⟩, List.mem_of_getElem? (i := 400) (by decide +kernel), List.mem_of_getElem? (i := 1274) (by decide +kernel), List.mem_of_getElem? (i := 1275) (by decide +kernel)⟩
theorem lw_p36 : lw_okq (⟨"SidePonds", "weigh", "(II)I"⟩, 13) := ⟨⟨by decide +kernel, by decide +kernel⟩, List.mem_of_getElem? (i := 26) (by decide +kernel), List.mem_of_getElem? (i := 1279) (by decide +kernel), List.mem_of_getElem? (i := 1280) (by decide +kernel)⟩
theorem lw_p37 : lw_okq (⟨"SidePonds", "leftAtWorst", "(II)I"⟩, 13) := ⟨⟨by decide +kernel, by decide +kernel⟩, List.mem_of_getElem? (i := 26) (by decide +kernel), List.mem_of_getElem? (i := 1291) (by decide +kernel), List.mem_of_getElem? (i := 1292) (by decide +kernel)⟩
theorem lw_p38 : lw_okq (⟨"java/lang/Throwable", "fillInStackTrace", "(I)Ljava/lang/Throwable;"⟩, 6) := ⟨⟨by decide +kernel, by decide +kernel⟩, List.mem_of_getElem? (i := 1374) (by decide +kernel), List.mem_of_getElem? (i := 1372) (by decide +kernel), List.mem_of_getElem? (i := 1373) (by decide +kernel)⟩
theorem lw_p39 : lw_okq (⟨"SidePondsModel", "begins", "()V"⟩, 70) := ⟨⟨by decide +kernel, by decide +kernel⟩, List.mem_of_getElem? (i := 1420) (by decide +kernel), List.mem_of_getElem? (i := 1426) (by decide +kernel), List.mem_of_getElem? (i := 1427) (by decide +kernel)⟩
theorem lw_p40 : lw_okq (⟨"SidePondsModel", "starts", "(I)V"⟩, 70) := ⟨⟨by decide +kernel, by decide +kernel⟩, List.mem_of_getElem? (i := 1420) (by decide +kernel), List.mem_of_getElem? (i := 1430) (by decide +kernel), List.mem_of_getElem? (i := 1431) (by decide +kernel)⟩
theorem lw_p41 : lw_okq (⟨"SidePondsModel", "reads", "(II)V"⟩, 70) := ⟨⟨by decide +kernel, by decide +kernel⟩, List.mem_of_getElem? (i := 1420) (by decide +kernel), List.mem_of_getElem? (i := 1657) (by decide +kernel), List.mem_of_getElem? (i := 1658) (by decide +kernel)⟩
theorem lw_p42 : lw_okq (⟨"SidePondsModel", "token", "()V"⟩, 70) := ⟨⟨by decide +kernel, by decide +kernel⟩, List.mem_of_getElem? (i := 1420) (by decide +kernel), List.mem_of_getElem? (i := 1661) (by decide +kernel), List.mem_of_getElem? (i := 1662) (by decide +kernel)⟩
theorem lw_p43 : lw_okq (⟨"SidePondsModel", "here", "()I"⟩, 70) := ⟨⟨by decide +kernel, by decide +kernel⟩, List.mem_of_getElem? (i := 1420) (by decide +kernel), List.mem_of_getElem? (i := 1665) (by decide +kernel), List.mem_of_getElem? (i := 1666) (by decide +kernel)⟩
theorem lw_p44 : lw_okq (⟨"SidePondsModel", "word", "()I"⟩, 70) := ⟨⟨by decide +kernel, by decide +kernel⟩, List.mem_of_getElem? (i := 1420) (by decide +kernel), List.mem_of_getElem? (i := 1672) (by decide +kernel), List.mem_of_getElem? (i := 1673) (by decide +kernel)⟩
theorem lw_p45 : lw_okq (⟨"SidePondsModel", "name", "()V"⟩, 70) := ⟨⟨by decide +kernel, by decide +kernel⟩, List.mem_of_getElem? (i := 1420) (by decide +kernel), List.mem_of_getElem? (i := 1679) (by decide +kernel), List.mem_of_getElem? (i := 1680) (by decide +kernel)⟩
theorem lw_p46 : lw_okq (⟨"SidePondsModel", "sign", "(I)V"⟩, 70) := ⟨⟨by decide +kernel, by decide +kernel⟩, List.mem_of_getElem? (i := 1420) (by decide +kernel), List.mem_of_getElem? (i := 1687) (by decide +kernel), List.mem_of_getElem? (i := 1688) (by decide +kernel)⟩
theorem lw_p47 : lw_okq (⟨"SidePondsModel", "line", "()V"⟩, 70) := ⟨⟨by decide +kernel, by decide +kernel⟩, List.mem_of_getElem? (i := 1420) (by decide +kernel), List.mem_of_getElem? (i := 1691) (by decide +kernel), List.mem_of_getElem? (i := 1692) (by decide +kernel)⟩
def lw_privs_3 : List (MethodName × Nat) := [(⟨"SidePonds$Openings", "open", "(LSidePonds$Scene;II)V"⟩, 7), (⟨"SidePonds$Openings", "note", "(III)V"⟩, 7), (⟨"SidePonds", "isRest", "(III)Z"⟩, 13), (⟨"SidePonds$Facts", "counts", "(I)Z"⟩, 7), (⟨"SidePonds", "weigh", "(II)I"⟩, 13), (⟨"SidePonds", "leftAtWorst", "(II)I"⟩, 13), (⟨"java/lang/Throwable", "fillInStackTrace", "(I)Ljava/lang/Throwable;"⟩, 6), (⟨"SidePondsModel", "begins", "()V"⟩, 70), (⟨"SidePondsModel", "starts", "(I)V"⟩, 70), (⟨"SidePondsModel", "reads", "(II)V"⟩, 70), (⟨"SidePondsModel", "token", "()V"⟩, 70), (⟨"SidePondsModel", "here", "()I"⟩, 70), (⟨"SidePondsModel", "word", "()I"⟩, 70), (⟨"SidePondsModel", "name", "()V"⟩, 70), (⟨"SidePondsModel", "sign", "(I)V"⟩, 70), (⟨"SidePondsModel", "line", "()V"⟩, 70)]
theorem lw_r3 : ∀ q ∈ lw_privs_3, lw_okq q := List.forall_mem_cons.mpr ⟨lw_p32, List.forall_mem_cons.mpr ⟨lw_p33, List.forall_mem_cons.mpr ⟨lw_p34, List.forall_mem_cons.mpr ⟨lw_p35, List.forall_mem_cons.mpr ⟨lw_p36, List.forall_mem_cons.mpr ⟨lw_p37, List.forall_mem_cons.mpr ⟨lw_p38, List.forall_mem_cons.mpr ⟨lw_p39, List.forall_mem_cons.mpr ⟨lw_p40, List.forall_mem_cons.mpr ⟨lw_p41, List.forall_mem_cons.mpr ⟨lw_p42, List.forall_mem_cons.mpr ⟨lw_p43, List.forall_mem_cons.mpr ⟨lw_p44, List.forall_mem_cons.mpr ⟨lw_p45, List.forall_mem_cons.mpr ⟨lw_p46, List.forall_mem_cons.mpr ⟨lw_p47, fun _ h => absurd h List.not_mem_nil⟩⟩⟩⟩⟩⟩⟩⟩⟩⟩⟩⟩⟩⟩⟩⟩
theorem lw_p48 : lw_okq (⟨"SidePondsModel", "wrong", "(I)V"⟩, 70) := ⟨⟨by decide +kernel, by decide +kernel⟩, List.mem_of_getElem? (i := 1420) (by decide +kernel), List.mem_of_getElem? (i := 1695) (by decide +kernel), List.mem_of_getElem? (i := 1696) (by decide +kernel)⟩
theorem lw_p49 : lw_okq (⟨"SidePondsModel", "isFull", "(I)Z"⟩, 70) := ⟨⟨by decide +kernel, by decide +kernel⟩, List.mem_of_getElem? (i := 1420) (by decide +kernel), List.mem_of_getElem? (i := 1699) (by decide +kernel), List.mem_of_getElem? (i := 1700) (by decide +kernel)⟩
theorem lw_p50 : lw_okq (⟨"SidePondsModel", "fresher", "(I)I"⟩, 70) := ⟨⟨by decide +kernel, by decide +kernel⟩, List.mem_of_getElem? (i := 1420) (by decide +kernel), List.mem_of_getElem? (i := 1703) (by decide +kernel), List.mem_of_getElem? (i := 1704) (by decide +kernel)⟩
theorem lw_p51 : lw_okq (⟨"SidePondsModel", "fresh", "([III)I"⟩, 70) := ⟨⟨by decide +kernel, by decide +kernel⟩, List.mem_of_getElem? (i := 1420) (by decide +kernel), List.mem_of_getElem? (i := 1707) (by decide +kernel), List.mem_of_getElem? (i := 1708) (by decide +kernel)⟩
theorem lw_p52 : lw_okq (⟨"SidePondsModel", "numeral", "(II)I"⟩, 70) := ⟨⟨by decide +kernel, by decide +kernel⟩, List.mem_of_getElem? (i := 1420) (by decide +kernel), List.mem_of_getElem? (i := 1714) (by decide +kernel), List.mem_of_getElem? (i := 1715) (by decide +kernel)⟩
theorem lw_p53 : lw_okq (⟨"SidePondsModel", "lockLine", "()V"⟩, 70) := ⟨⟨by decide +kernel, by decide +kernel⟩, List.mem_of_getElem? (i := 1420) (by decide +kernel), List.mem_of_getElem? (i := 1718) (by decide +kernel), List.mem_of_getElem? (i := 1719) (by decide +kernel)⟩
theorem lw_p54 : lw_okq (⟨"SidePondsModel", "pondAtHand", "()I"⟩, 70) := ⟨⟨by decide +kernel, by decide +kernel⟩, List.mem_of_getElem? (i := 1420) (by decide +kernel), List.mem_of_getElem? (i := 1722) (by decide +kernel), List.mem_of_getElem? (i := 1723) (by decide +kernel)⟩
theorem lw_p55 : lw_okq (⟨"SidePondsModel", "lockWith", "(I)I"⟩, 70) := ⟨⟨by decide +kernel, by decide +kernel⟩, List.mem_of_getElem? (i := 1420) (by decide +kernel), List.mem_of_getElem? (i := 1726) (by decide +kernel), List.mem_of_getElem? (i := 1727) (by decide +kernel)⟩
theorem lw_p56 : lw_okq (⟨"SidePondsModel", "goOn", "()V"⟩, 70) := ⟨⟨by decide +kernel, by decide +kernel⟩, List.mem_of_getElem? (i := 1420) (by decide +kernel), List.mem_of_getElem? (i := 1730) (by decide +kernel), List.mem_of_getElem? (i := 1731) (by decide +kernel)⟩
theorem lw_p57 : lw_okq (⟨"SidePondsModel", "pipeLine", "()V"⟩, 70) := ⟨⟨by decide +kernel, by decide +kernel⟩, List.mem_of_getElem? (i := 1420) (by decide +kernel), List.mem_of_getElem? (i := 1734) (by decide +kernel), List.mem_of_getElem? (i := 1735) (by decide +kernel)⟩
theorem lw_p58 : lw_okq (⟨"SidePondsModel", "turnLine", "()V"⟩, 70) := ⟨⟨by decide +kernel, by decide +kernel⟩, List.mem_of_getElem? (i := 1420) (by decide +kernel), List.mem_of_getElem? (i := 1738) (by decide +kernel), List.mem_of_getElem? (i := 1739) (by decide +kernel)⟩
theorem lw_p59 : lw_okq (⟨"SidePondsModel", "lawLine", "()V"⟩, 70) := ⟨⟨by decide +kernel, by decide +kernel⟩, List.mem_of_getElem? (i := 1420) (by decide +kernel), List.mem_of_getElem? (i := 1742) (by decide +kernel), List.mem_of_getElem? (i := 1743) (by decide +kernel)⟩
theorem lw_p60 : lw_okq (⟨"SidePondsModel", "expression", "()V"⟩, 70) := ⟨⟨by decide +kernel, by decide +kernel⟩, List.mem_of_getElem? (i := 1420) (by decide +kernel), List.mem_of_getElem? (i := 1746) (by decide +kernel), List.mem_of_getElem? (i := 1747) (by decide +kernel)⟩
theorem lw_p61 : lw_okq (⟨"SidePondsModel", "conjunction", "()V"⟩, 70) := ⟨⟨by decide +kernel, by decide +kernel⟩, List.mem_of_getElem? (i := 1420) (by decide +kernel), List.mem_of_getElem? (i := 1750) (by decide +kernel), List.mem_of_getElem? (i := 1751) (by decide +kernel)⟩
theorem lw_p62 : lw_okq (⟨"SidePondsModel", "negation", "()V"⟩, 70) := ⟨⟨by decide +kernel, by decide +kernel⟩, List.mem_of_getElem? (i := 1420) (by decide +kernel), List.mem_of_getElem? (i := 1754) (by decide +kernel), List.mem_of_getElem? (i := 1755) (by decide +kernel)⟩
theorem lw_p63 : lw_okq (⟨"SidePondsModel", "isWord", "(I)Z"⟩, 70) := ⟨⟨by decide +kernel, by decide +kernel⟩, List.mem_of_getElem? (i := 1420) (by decide +kernel), List.mem_of_getElem? (i := 1758) (by decide +kernel), List.mem_of_getElem? (i := 1759) (by decide +kernel)⟩
def lw_privs_4 : List (MethodName × Nat) := [(⟨"SidePondsModel", "wrong", "(I)V"⟩, 70), (⟨"SidePondsModel", "isFull", "(I)Z"⟩, 70), (⟨"SidePondsModel", "fresher", "(I)I"⟩, 70), (⟨"SidePondsModel", "fresh", "([III)I"⟩, 70), (⟨"SidePondsModel", "numeral", "(II)I"⟩, 70), (⟨"SidePondsModel", "lockLine", "()V"⟩, 70), (⟨"SidePondsModel", "pondAtHand", "()I"⟩, 70), (⟨"SidePondsModel", "lockWith", "(I)I"⟩, 70), (⟨"SidePondsModel", "goOn", "()V"⟩, 70), (⟨"SidePondsModel", "pipeLine", "()V"⟩, 70), (⟨"SidePondsModel", "turnLine", "()V"⟩, 70), (⟨"SidePondsModel", "lawLine", "()V"⟩, 70), (⟨"SidePondsModel", "expression", "()V"⟩, 70), (⟨"SidePondsModel", "conjunction", "()V"⟩, 70), (⟨"SidePondsModel", "negation", "()V"⟩, 70), (⟨"SidePondsModel", "isWord", "(I)Z"⟩, 70)]
theorem lw_r4 : ∀ q ∈ lw_privs_4, lw_okq q := List.forall_mem_cons.mpr ⟨lw_p48, List.forall_mem_cons.mpr ⟨lw_p49, List.forall_mem_cons.mpr ⟨lw_p50, List.forall_mem_cons.mpr ⟨lw_p51, List.forall_mem_cons.mpr ⟨lw_p52, List.forall_mem_cons.mpr ⟨lw_p53, List.forall_mem_cons.mpr ⟨lw_p54, List.forall_mem_cons.mpr ⟨lw_p55, List.forall_mem_cons.mpr ⟨lw_p56, List.forall_mem_cons.mpr ⟨lw_p57, List.forall_mem_cons.mpr ⟨lw_p58, List.forall_mem_cons.mpr ⟨lw_p59, List.forall_mem_cons.mpr ⟨lw_p60, List.forall_mem_cons.mpr ⟨lw_p61, List.forall_mem_cons.mpr ⟨lw_p62, List.forall_mem_cons.mpr ⟨lw_p63, fun _ h => absurd h List.not_mem_nil⟩⟩⟩⟩⟩⟩⟩⟩⟩⟩⟩⟩⟩⟩⟩⟩
theorem lw_p64 : lw_okq (⟨"SidePondsModel", "knot", "()V"⟩, 70) := ⟨⟨by decide +kernel, by decide +kernel⟩, List.mem_of_getElem? (i := 1420) (by decide +kernel), List.mem_of_getElem? (i := 1762) (by decide +kernel), List.mem_of_getElem? (i := 1763) (by decide +kernel)⟩
theorem lw_p65 : lw_okq (⟨"SidePondsModel", "puts", "(II)V"⟩, 70) := ⟨⟨by decide +kernel, by decide +kernel⟩, List.mem_of_getElem? (i := 1420) (by decide +kernel), List.mem_of_getElem? (i := 1766) (by decide +kernel), List.mem_of_getElem? (i := 1767) (by decide +kernel)⟩
theorem lw_p66 : lw_okq (⟨"SidePondsModel", "sum", "()V"⟩, 70) := ⟨⟨by decide +kernel, by decide +kernel⟩, List.mem_of_getElem? (i := 1420) (by decide +kernel), List.mem_of_getElem? (i := 1770) (by decide +kernel), List.mem_of_getElem? (i := 1771) (by decide +kernel)⟩
theorem lw_p67 : lw_okq (⟨"SidePondsModel", "product", "()V"⟩, 70) := ⟨⟨by decide +kernel, by decide +kernel⟩, List.mem_of_getElem? (i := 1420) (by decide +kernel), List.mem_of_getElem? (i := 1774) (by decide +kernel), List.mem_of_getElem? (i := 1775) (by decide +kernel)⟩
theorem lw_p68 : lw_okq (⟨"SidePondsModel", "primary", "()V"⟩, 70) := ⟨⟨by decide +kernel, by decide +kernel⟩, List.mem_of_getElem? (i := 1420) (by decide +kernel), List.mem_of_getElem? (i := 1778) (by decide +kernel), List.mem_of_getElem? (i := 1779) (by decide +kernel)⟩
theorem lw_p69 : lw_okq (⟨"SidePondsModel", "isSign", "(I)Z"⟩, 70) := ⟨⟨by decide +kernel, by decide +kernel⟩, List.mem_of_getElem? (i := 1420) (by decide +kernel), List.mem_of_getElem? (i := 1782) (by decide +kernel), List.mem_of_getElem? (i := 1783) (by decide +kernel)⟩
theorem lw_p70 : lw_okq (⟨"SidePondsModel", "isPond", "(I)Z"⟩, 70) := ⟨⟨by decide +kernel, by decide +kernel⟩, List.mem_of_getElem? (i := 1420) (by decide +kernel), List.mem_of_getElem? (i := 1801) (by decide +kernel), List.mem_of_getElem? (i := 1802) (by decide +kernel)⟩
theorem lw_p71 : lw_okq (⟨"SidePondsModel", "lockOf", "(I)I"⟩, 70) := ⟨⟨by decide +kernel, by decide +kernel⟩, List.mem_of_getElem? (i := 1420) (by decide +kernel), List.mem_of_getElem? (i := 1805) (by decide +kernel), List.mem_of_getElem? (i := 1806) (by decide +kernel)⟩
theorem lw_p72 : lw_okq (⟨"SidePondsModel", "fullOf", "(II)I"⟩, 70) := ⟨⟨by decide +kernel, by decide +kernel⟩, List.mem_of_getElem? (i := 1420) (by decide +kernel), List.mem_of_getElem? (i := 1819) (by decide +kernel), List.mem_of_getElem? (i := 1820) (by decide +kernel)⟩
theorem lw_p73 : lw_okq (⟨"SidePondsModel", "isPipe", "(I)Z"⟩, 70) := ⟨⟨by decide +kernel, by decide +kernel⟩, List.mem_of_getElem? (i := 1420) (by decide +kernel), List.mem_of_getElem? (i := 1833) (by decide +kernel), List.mem_of_getElem? (i := 1834) (by decide +kernel)⟩
theorem lw_p74 : lw_okq (⟨"SidePondsModel", "isOpen", "(II)Z"⟩, 70) := ⟨⟨by decide +kernel, by decide +kernel⟩, List.mem_of_getElem? (i := 1420) (by decide +kernel), List.mem_of_getElem? (i := 1837) (by decide +kernel), List.mem_of_getElem? (i := 1838) (by decide +kernel)⟩
theorem lw_p75 : lw_okq (⟨"SidePondsModel", "isJammed", "(II)Z"⟩, 70) := ⟨⟨by decide +kernel, by decide +kernel⟩, List.mem_of_getElem? (i := 1420) (by decide +kernel), List.mem_of_getElem? (i := 1841) (by decide +kernel), List.mem_of_getElem? (i := 1842) (by decide +kernel)⟩
theorem lw_p76 : lw_okq (⟨"SidePondsModel", "isTurned", "(II)Z"⟩, 70) := ⟨⟨by decide +kernel, by decide +kernel⟩, List.mem_of_getElem? (i := 1420) (by decide +kernel), List.mem_of_getElem? (i := 1845) (by decide +kernel), List.mem_of_getElem? (i := 1846) (by decide +kernel)⟩
theorem lw_p77 : lw_okq (⟨"SidePondsModel", "isLock", "(I)Z"⟩, 70) := ⟨⟨by decide +kernel, by decide +kernel⟩, List.mem_of_getElem? (i := 1420) (by decide +kernel), List.mem_of_getElem? (i := 1853) (by decide +kernel), List.mem_of_getElem? (i := 1854) (by decide +kernel)⟩
theorem lw_p78 : lw_okq (⟨"SidePondsModel", "boatIn", "(II)I"⟩, 70) := ⟨⟨by decide +kernel, by decide +kernel⟩, List.mem_of_getElem? (i := 1420) (by decide +kernel), List.mem_of_getElem? (i := 1857) (by decide +kernel), List.mem_of_getElem? (i := 1858) (by decide +kernel)⟩
theorem lw_p79 : lw_okq (⟨"SidePondsModel", "isBoat", "(I)Z"⟩, 70) := ⟨⟨by decide +kernel, by decide +kernel⟩, List.mem_of_getElem? (i := 1420) (by decide +kernel), List.mem_of_getElem? (i := 1865) (by decide +kernel), List.mem_of_getElem? (i := 1866) (by decide +kernel)⟩
def lw_privs_5 : List (MethodName × Nat) := [(⟨"SidePondsModel", "knot", "()V"⟩, 70), (⟨"SidePondsModel", "puts", "(II)V"⟩, 70), (⟨"SidePondsModel", "sum", "()V"⟩, 70), (⟨"SidePondsModel", "product", "()V"⟩, 70), (⟨"SidePondsModel", "primary", "()V"⟩, 70), (⟨"SidePondsModel", "isSign", "(I)Z"⟩, 70), (⟨"SidePondsModel", "isPond", "(I)Z"⟩, 70), (⟨"SidePondsModel", "lockOf", "(I)I"⟩, 70), (⟨"SidePondsModel", "fullOf", "(II)I"⟩, 70), (⟨"SidePondsModel", "isPipe", "(I)Z"⟩, 70), (⟨"SidePondsModel", "isOpen", "(II)Z"⟩, 70), (⟨"SidePondsModel", "isJammed", "(II)Z"⟩, 70), (⟨"SidePondsModel", "isTurned", "(II)Z"⟩, 70), (⟨"SidePondsModel", "isLock", "(I)Z"⟩, 70), (⟨"SidePondsModel", "boatIn", "(II)I"⟩, 70), (⟨"SidePondsModel", "isBoat", "(I)Z"⟩, 70)]
theorem lw_r5 : ∀ q ∈ lw_privs_5, lw_okq q := List.forall_mem_cons.mpr ⟨lw_p64, List.forall_mem_cons.mpr ⟨lw_p65, List.forall_mem_cons.mpr ⟨lw_p66, List.forall_mem_cons.mpr ⟨lw_p67, List.forall_mem_cons.mpr ⟨lw_p68, List.forall_mem_cons.mpr ⟨lw_p69, List.forall_mem_cons.mpr ⟨lw_p70, List.forall_mem_cons.mpr ⟨lw_p71, List.forall_mem_cons.mpr ⟨lw_p72, List.forall_mem_cons.mpr ⟨lw_p73, List.forall_mem_cons.mpr ⟨lw_p74, List.forall_mem_cons.mpr ⟨lw_p75, List.forall_mem_cons.mpr ⟨lw_p76, List.forall_mem_cons.mpr ⟨lw_p77, List.forall_mem_cons.mpr ⟨lw_p78, List.forall_mem_cons.mpr ⟨lw_p79, fun _ h => absurd h List.not_mem_nil⟩⟩⟩⟩⟩⟩⟩⟩⟩⟩⟩⟩⟩⟩⟩⟩
theorem lw_p80 : lw_okq (⟨"SidePondsModel", "hasLaw", "(I)Z"⟩, 70) := ⟨⟨by decide +kernel, by decide +kernel⟩, List.mem_of_getElem? (i := 1420) (by decide +kernel), List.mem_of_getElem? (i := 1873) (by decide +kernel), List.mem_of_getElem? (i := 1874) (by decide +kernel)⟩
theorem lw_p81 : lw_okq (⟨"SidePondsModel", "sourceOf", "(II)I"⟩, 70) := ⟨⟨by decide +kernel, by decide +kernel⟩, List.mem_of_getElem? (i := 1420) (by decide +kernel), List.mem_of_getElem? (i := 1878) (by decide +kernel), List.mem_of_getElem? (i := 1879) (by decide +kernel)⟩
theorem lw_p82 : lw_okq (⟨"SidePondsModel", "higherBy", "(III)I"⟩, 70) := ⟨⟨by decide +kernel, by decide +kernel⟩, List.mem_of_getElem? (i := 1420) (by decide +kernel), List.mem_of_getElem? (i := 1882) (by decide +kernel), List.mem_of_getElem? (i := 1883) (by decide +kernel)⟩
theorem lw_p83 : lw_okq (⟨"SidePondsModel", "calls", "(III)V"⟩, 70) := ⟨⟨by decide +kernel, by decide +kernel⟩, List.mem_of_getElem? (i := 1420) (by decide +kernel), List.mem_of_getElem? (i := 1886) (by decide +kernel), List.mem_of_getElem? (i := 1887) (by decide +kernel)⟩
theorem lw_p84 : lw_okq (⟨"SidePondsModel", "openMany", "(I)I"⟩, 70) := ⟨⟨by decide +kernel, by decide +kernel⟩, List.mem_of_getElem? (i := 1420) (by decide +kernel), List.mem_of_getElem? (i := 1890) (by decide +kernel), List.mem_of_getElem? (i := 1891) (by decide +kernel)⟩
theorem lw_p85 : lw_okq (⟨"SidePondsModel", "boatsOf", "(II)I"⟩, 70) := ⟨⟨by decide +kernel, by decide +kernel⟩, List.mem_of_getElem? (i := 1420) (by decide +kernel), List.mem_of_getElem? (i := 1894) (by decide +kernel), List.mem_of_getElem? (i := 1895) (by decide +kernel)⟩
theorem lw_p86 : lw_okq (⟨"SidePondsModel", "goes", "(I)Z"⟩, 70) := ⟨⟨by decide +kernel, by decide +kernel⟩, List.mem_of_getElem? (i := 1420) (by decide +kernel), List.mem_of_getElem? (i := 1898) (by decide +kernel), List.mem_of_getElem? (i := 1899) (by decide +kernel)⟩
theorem lw_p87 : lw_okq (⟨"SidePondsModel", "works", "(I)Z"⟩, 70) := ⟨⟨by decide +kernel, by decide +kernel⟩, List.mem_of_getElem? (i := 1420) (by decide +kernel), List.mem_of_getElem? (i := 1902) (by decide +kernel), List.mem_of_getElem? (i := 1903) (by decide +kernel)⟩
theorem lw_p88 : lw_okq (⟨"SidePondsModel", "runOf", "(II)I"⟩, 70) := ⟨⟨by decide +kernel, by decide +kernel⟩, List.mem_of_getElem? (i := 1420) (by decide +kernel), List.mem_of_getElem? (i := 1918) (by decide +kernel), List.mem_of_getElem? (i := 1919) (by decide +kernel)⟩
theorem lw_p89 : lw_okq (⟨"SidePondsModel", "sinkOf", "(II)I"⟩, 70) := ⟨⟨by decide +kernel, by decide +kernel⟩, List.mem_of_getElem? (i := 1420) (by decide +kernel), List.mem_of_getElem? (i := 1922) (by decide +kernel), List.mem_of_getElem? (i := 1923) (by decide +kernel)⟩
theorem lw_p90 : lw_okq (⟨"SidePondsModel", "keepNow", "()V"⟩, 70) := ⟨⟨by decide +kernel, by decide +kernel⟩, List.mem_of_getElem? (i := 1420) (by decide +kernel), List.mem_of_getElem? (i := 1931) (by decide +kernel), List.mem_of_getElem? (i := 1932) (by decide +kernel)⟩
theorem lw_p91 : lw_okq (⟨"SidePondsModel", "copies", "(II)V"⟩, 70) := ⟨⟨by decide +kernel, by decide +kernel⟩, List.mem_of_getElem? (i := 1420) (by decide +kernel), List.mem_of_getElem? (i := 1935) (by decide +kernel), List.mem_of_getElem? (i := 1936) (by decide +kernel)⟩
theorem lw_p92 : lw_okq (⟨"SidePondsModel", "flows", "(III)I"⟩, 70) := ⟨⟨by decide +kernel, by decide +kernel⟩, List.mem_of_getElem? (i := 1420) (by decide +kernel), List.mem_of_getElem? (i := 1939) (by decide +kernel), List.mem_of_getElem? (i := 1940) (by decide +kernel)⟩
theorem lw_p93 : lw_okq (⟨"SidePondsModel", "more", "(II)I"⟩, 70) := ⟨⟨by decide +kernel, by decide +kernel⟩, List.mem_of_getElem? (i := 1420) (by decide +kernel), List.mem_of_getElem? (i := 1947) (by decide +kernel), List.mem_of_getElem? (i := 1948) (by decide +kernel)⟩
theorem lw_p94 : lw_okq (⟨"SidePondsModel", "passes", "(IZ)V"⟩, 70) := ⟨⟨by decide +kernel, by decide +kernel⟩, List.mem_of_getElem? (i := 1420) (by decide +kernel), List.mem_of_getElem? (i := 1964) (by decide +kernel), List.mem_of_getElem? (i := 1965) (by decide +kernel)⟩
theorem lw_p95 : lw_okq (⟨"SidePondsModel", "opens", "(IIZ)V"⟩, 70) := ⟨⟨by decide +kernel, by decide +kernel⟩, List.mem_of_getElem? (i := 1420) (by decide +kernel), List.mem_of_getElem? (i := 1968) (by decide +kernel), List.mem_of_getElem? (i := 1969) (by decide +kernel)⟩
def lw_privs_6 : List (MethodName × Nat) := [(⟨"SidePondsModel", "hasLaw", "(I)Z"⟩, 70), (⟨"SidePondsModel", "sourceOf", "(II)I"⟩, 70), (⟨"SidePondsModel", "higherBy", "(III)I"⟩, 70), (⟨"SidePondsModel", "calls", "(III)V"⟩, 70), (⟨"SidePondsModel", "openMany", "(I)I"⟩, 70), (⟨"SidePondsModel", "boatsOf", "(II)I"⟩, 70), (⟨"SidePondsModel", "goes", "(I)Z"⟩, 70), (⟨"SidePondsModel", "works", "(I)Z"⟩, 70), (⟨"SidePondsModel", "runOf", "(II)I"⟩, 70), (⟨"SidePondsModel", "sinkOf", "(II)I"⟩, 70), (⟨"SidePondsModel", "keepNow", "()V"⟩, 70), (⟨"SidePondsModel", "copies", "(II)V"⟩, 70), (⟨"SidePondsModel", "flows", "(III)I"⟩, 70), (⟨"SidePondsModel", "more", "(II)I"⟩, 70), (⟨"SidePondsModel", "passes", "(IZ)V"⟩, 70), (⟨"SidePondsModel", "opens", "(IIZ)V"⟩, 70)]
theorem lw_r6 : ∀ q ∈ lw_privs_6, lw_okq q := List.forall_mem_cons.mpr ⟨lw_p80, List.forall_mem_cons.mpr ⟨lw_p81, List.forall_mem_cons.mpr ⟨lw_p82, List.forall_mem_cons.mpr ⟨lw_p83, List.forall_mem_cons.mpr ⟨lw_p84, List.forall_mem_cons.mpr ⟨lw_p85, List.forall_mem_cons.mpr ⟨lw_p86, List.forall_mem_cons.mpr ⟨lw_p87, List.forall_mem_cons.mpr ⟨lw_p88, List.forall_mem_cons.mpr ⟨lw_p89, List.forall_mem_cons.mpr ⟨lw_p90, List.forall_mem_cons.mpr ⟨lw_p91, List.forall_mem_cons.mpr ⟨lw_p92, List.forall_mem_cons.mpr ⟨lw_p93, List.forall_mem_cons.mpr ⟨lw_p94, List.forall_mem_cons.mpr ⟨lw_p95, fun _ h => absurd h List.not_mem_nil⟩⟩⟩⟩⟩⟩⟩⟩⟩⟩⟩⟩⟩⟩⟩⟩
theorem lw_p96 : lw_okq (⟨"SidePondsModel", "within", "(III)I"⟩, 70) := ⟨⟨by decide +kernel, by decide +kernel⟩, List.mem_of_getElem? (i := 1420) (by decide +kernel), List.mem_of_getElem? (i := 1972) (by decide +kernel), List.mem_of_getElem? (i := 1973) (by decide +kernel)⟩
theorem lw_p97 : lw_okq (⟨"SidePondsModel", "doesJam", "(IZ)Z"⟩, 70) := ⟨⟨by decide +kernel, by decide +kernel⟩, List.mem_of_getElem? (i := 1420) (by decide +kernel), List.mem_of_getElem? (i := 1978) (by decide +kernel), List.mem_of_getElem? (i := 1979) (by decide +kernel)⟩
theorem lw_p98 : lw_okq (⟨"SidePondsModel", "loses", "(II)V"⟩, 70) := ⟨⟨by decide +kernel, by decide +kernel⟩, List.mem_of_getElem? (i := 1420) (by decide +kernel), List.mem_of_getElem? (i := 1984) (by decide +kernel), List.mem_of_getElem? (i := 1985) (by decide +kernel)⟩
theorem lw_p99 : lw_okq (⟨"SidePondsModel", "moves", "(II)V"⟩, 70) := ⟨⟨by decide +kernel, by decide +kernel⟩, List.mem_of_getElem? (i := 1420) (by decide +kernel), List.mem_of_getElem? (i := 1988) (by decide +kernel), List.mem_of_getElem? (i := 1989) (by decide +kernel)⟩
theorem lw_p100 : lw_okq (⟨"SidePondsModel", "isHigh", "(III)Z"⟩, 70) := ⟨⟨by decide +kernel, by decide +kernel⟩, List.mem_of_getElem? (i := 1420) (by decide +kernel), List.mem_of_getElem? (i := 1992) (by decide +kernel), List.mem_of_getElem? (i := 1993) (by decide +kernel)⟩
theorem lw_p101 : lw_okq (⟨"SidePondsModel", "goesOn", "(I)V"⟩, 70) := ⟨⟨by decide +kernel, by decide +kernel⟩, List.mem_of_getElem? (i := 1420) (by decide +kernel), List.mem_of_getElem? (i := 2000) (by decide +kernel), List.mem_of_getElem? (i := 2001) (by decide +kernel)⟩
theorem lw_p102 : lw_okq (⟨"SidePondsModel", "sumOf", "([III)I"⟩, 70) := ⟨⟨by decide +kernel, by decide +kernel⟩, List.mem_of_getElem? (i := 1420) (by decide +kernel), List.mem_of_getElem? (i := 2004) (by decide +kernel), List.mem_of_getElem? (i := 2005) (by decide +kernel)⟩
theorem lw_p103 : lw_okq (⟨"SidePondsModel", "joinedBy", "(II)I"⟩, 70) := ⟨⟨by decide +kernel, by decide +kernel⟩, List.mem_of_getElem? (i := 1420) (by decide +kernel), List.mem_of_getElem? (i := 2019) (by decide +kernel), List.mem_of_getElem? (i := 2020) (by decide +kernel)⟩
theorem lw_p104 : lw_okq (⟨"SidePondsModel", "overOf", "(II)I"⟩, 70) := ⟨⟨by decide +kernel, by decide +kernel⟩, List.mem_of_getElem? (i := 1420) (by decide +kernel), List.mem_of_getElem? (i := 2030) (by decide +kernel), List.mem_of_getElem? (i := 2031) (by decide +kernel)⟩
theorem lw_p105 : lw_okq (⟨"SidePondsModel", "spareOf", "(II)I"⟩, 70) := ⟨⟨by decide +kernel, by decide +kernel⟩, List.mem_of_getElem? (i := 1420) (by decide +kernel), List.mem_of_getElem? (i := 2038) (by decide +kernel), List.mem_of_getElem? (i := 2039) (by decide +kernel)⟩
theorem lw_p106 : lw_okq (⟨"SidePondsModel", "liftOf", "(I)I"⟩, 70) := ⟨⟨by decide +kernel, by decide +kernel⟩, List.mem_of_getElem? (i := 1420) (by decide +kernel), List.mem_of_getElem? (i := 2046) (by decide +kernel), List.mem_of_getElem? (i := 2047) (by decide +kernel)⟩
theorem lw_p107 : lw_okq (⟨"SidePondsModel", "fewestBy", "(II)I"⟩, 70) := ⟨⟨by decide +kernel, by decide +kernel⟩, List.mem_of_getElem? (i := 1420) (by decide +kernel), List.mem_of_getElem? (i := 2054) (by decide +kernel), List.mem_of_getElem? (i := 2055) (by decide +kernel)⟩
theorem lw_p108 : lw_okq (⟨"SidePondsModel", "seeks", "(II)V"⟩, 70) := ⟨⟨by decide +kernel, by decide +kernel⟩, List.mem_of_getElem? (i := 1420) (by decide +kernel), List.mem_of_getElem? (i := 2058) (by decide +kernel), List.mem_of_getElem? (i := 2059) (by decide +kernel)⟩
theorem lw_p109 : lw_okq (⟨"SidePondsModel", "takes", "(I)V"⟩, 70) := ⟨⟨by decide +kernel, by decide +kernel⟩, List.mem_of_getElem? (i := 1420) (by decide +kernel), List.mem_of_getElem? (i := 2062) (by decide +kernel), List.mem_of_getElem? (i := 2063) (by decide +kernel)⟩
theorem lw_p110 : lw_okq (⟨"SidePondsModel", "laysWater", "(I)V"⟩, 70) := ⟨⟨by decide +kernel, by decide +kernel⟩, List.mem_of_getElem? (i := 1420) (by decide +kernel), List.mem_of_getElem? (i := 2066) (by decide +kernel), List.mem_of_getElem? (i := 2067) (by decide +kernel)⟩
theorem lw_p111 : lw_okq (⟨"SidePondsModel", "opensTo", "(II)Z"⟩, 70) := ⟨⟨by decide +kernel, by decide +kernel⟩, List.mem_of_getElem? (i := 1420) (by decide +kernel), List.mem_of_getElem? (i := 2070) (by decide +kernel), List.mem_of_getElem? (i := 2071) (by decide +kernel)⟩
def lw_privs_7 : List (MethodName × Nat) := [(⟨"SidePondsModel", "within", "(III)I"⟩, 70), (⟨"SidePondsModel", "doesJam", "(IZ)Z"⟩, 70), (⟨"SidePondsModel", "loses", "(II)V"⟩, 70), (⟨"SidePondsModel", "moves", "(II)V"⟩, 70), (⟨"SidePondsModel", "isHigh", "(III)Z"⟩, 70), (⟨"SidePondsModel", "goesOn", "(I)V"⟩, 70), (⟨"SidePondsModel", "sumOf", "([III)I"⟩, 70), (⟨"SidePondsModel", "joinedBy", "(II)I"⟩, 70), (⟨"SidePondsModel", "overOf", "(II)I"⟩, 70), (⟨"SidePondsModel", "spareOf", "(II)I"⟩, 70), (⟨"SidePondsModel", "liftOf", "(I)I"⟩, 70), (⟨"SidePondsModel", "fewestBy", "(II)I"⟩, 70), (⟨"SidePondsModel", "seeks", "(II)V"⟩, 70), (⟨"SidePondsModel", "takes", "(I)V"⟩, 70), (⟨"SidePondsModel", "laysWater", "(I)V"⟩, 70), (⟨"SidePondsModel", "opensTo", "(II)Z"⟩, 70)]
theorem lw_r7 : ∀ q ∈ lw_privs_7, lw_okq q := List.forall_mem_cons.mpr ⟨lw_p96, List.forall_mem_cons.mpr ⟨lw_p97, List.forall_mem_cons.mpr ⟨lw_p98, List.forall_mem_cons.mpr ⟨lw_p99, List.forall_mem_cons.mpr ⟨lw_p100, List.forall_mem_cons.mpr ⟨lw_p101, List.forall_mem_cons.mpr ⟨lw_p102, List.forall_mem_cons.mpr ⟨lw_p103, List.forall_mem_cons.mpr ⟨lw_p104, List.forall_mem_cons.mpr ⟨lw_p105, List.forall_mem_cons.mpr ⟨lw_p106, List.forall_mem_cons.mpr ⟨lw_p107, List.forall_mem_cons.mpr ⟨lw_p108, List.forall_mem_cons.mpr ⟨lw_p109, List.forall_mem_cons.mpr ⟨lw_p110, List.forall_mem_cons.mpr ⟨lw_p111, fun _ h => absurd h List.not_mem_nil⟩⟩⟩⟩⟩⟩⟩⟩⟩⟩⟩⟩⟩⟩⟩⟩
theorem lw_p112 : lw_okq (⟨"SidePondsModel", "drawsBy", "(I)V"⟩, 70) := ⟨⟨by decide +kernel, by decide +kernel⟩, List.mem_of_getElem? (i := 1420) (by decide +kernel), List.mem_of_getElem? (i := 2078) (by decide +kernel), List.mem_of_getElem? (i := 2079) (by decide +kernel)⟩
theorem lw_p113 : lw_okq (⟨"SidePondsModel", "runsAll", "()I"⟩, 70) := ⟨⟨by decide +kernel, by decide +kernel⟩, List.mem_of_getElem? (i := 1420) (by decide +kernel), List.mem_of_getElem? (i := 2095) (by decide +kernel), List.mem_of_getElem? (i := 2096) (by decide +kernel)⟩
theorem lw_p114 : lw_okq (⟨"SidePondsModel", "nextTo", "(I)I"⟩, 70) := ⟨⟨by decide +kernel, by decide +kernel⟩, List.mem_of_getElem? (i := 1420) (by decide +kernel), List.mem_of_getElem? (i := 2103) (by decide +kernel), List.mem_of_getElem? (i := 2104) (by decide +kernel)⟩
theorem lw_p115 : lw_okq (⟨"SidePondsModel", "findsOne", "(II)Z"⟩, 70) := ⟨⟨by decide +kernel, by decide +kernel⟩, List.mem_of_getElem? (i := 1420) (by decide +kernel), List.mem_of_getElem? (i := 2111) (by decide +kernel), List.mem_of_getElem? (i := 2112) (by decide +kernel)⟩
theorem lw_p116 : lw_okq (⟨"SidePondsModel", "otherOf", "(II)I"⟩, 70) := ⟨⟨by decide +kernel, by decide +kernel⟩, List.mem_of_getElem? (i := 1420) (by decide +kernel), List.mem_of_getElem? (i := 2115) (by decide +kernel), List.mem_of_getElem? (i := 2116) (by decide +kernel)⟩
theorem lw_p117 : lw_okq (⟨"SidePondsModel", "roomFrom", "(II)I"⟩, 70) := ⟨⟨by decide +kernel, by decide +kernel⟩, List.mem_of_getElem? (i := 1420) (by decide +kernel), List.mem_of_getElem? (i := 2119) (by decide +kernel), List.mem_of_getElem? (i := 2120) (by decide +kernel)⟩
theorem lw_p118 : lw_okq (⟨"SidePondsModel", "sends", "(II)I"⟩, 70) := ⟨⟨by decide +kernel, by decide +kernel⟩, List.mem_of_getElem? (i := 1420) (by decide +kernel), List.mem_of_getElem? (i := 2123) (by decide +kernel), List.mem_of_getElem? (i := 2124) (by decide +kernel)⟩
theorem lw_p119 : lw_okq (⟨"SidePondsModel", "areTwo", "(II)Z"⟩, 70) := ⟨⟨by decide +kernel, by decide +kernel⟩, List.mem_of_getElem? (i := 1420) (by decide +kernel), List.mem_of_getElem? (i := 2139) (by decide +kernel), List.mem_of_getElem? (i := 2140) (by decide +kernel)⟩
theorem lw_p120 : lw_okq (⟨"SidePondsModel", "restOf", "(III)I"⟩, 70) := ⟨⟨by decide +kernel, by decide +kernel⟩, List.mem_of_getElem? (i := 1420) (by decide +kernel), List.mem_of_getElem? (i := 2143) (by decide +kernel), List.mem_of_getElem? (i := 2144) (by decide +kernel)⟩
theorem lw_p121 : lw_okq (⟨"SidePondsModel", "isRest", "(III)Z"⟩, 70) := ⟨⟨by decide +kernel, by decide +kernel⟩, List.mem_of_getElem? (i := 1420) (by decide +kernel), List.mem_of_getElem? (i := 2147) (by decide +kernel), List.mem_of_getElem? (i := 2148) (by decide +kernel)⟩
theorem lw_p122 : lw_okq (⟨"SidePondsModel", "hasOf", "(IIII)I"⟩, 70) := ⟨⟨by decide +kernel, by decide +kernel⟩, List.mem_of_getElem? (i := 1420) (by decide +kernel), List.mem_of_getElem? (i := 2151) (by decide +kernel), List.mem_of_getElem? (i := 2152) (by decide +kernel)⟩
theorem lw_p123 : lw_okq (⟨"SidePondsModel", "leaksOf", "(I)I"⟩, 70) := ⟨⟨by decide +kernel, by decide +kernel⟩, List.mem_of_getElem? (i := 1420) (by decide +kernel), List.mem_of_getElem? (i := 2181) (by decide +kernel), List.mem_of_getElem? (i := 2182) (by decide +kernel)⟩
theorem lw_p124 : lw_okq (⟨"SidePondsModel", "knownMany", "()I"⟩, 70) := ⟨⟨by decide +kernel, by decide +kernel⟩, List.mem_of_getElem? (i := 1420) (by decide +kernel), List.mem_of_getElem? (i := 2185) (by decide +kernel), List.mem_of_getElem? (i := 2186) (by decide +kernel)⟩
theorem lw_p125 : lw_okq (⟨"SidePondsModel", "fitsLeak", "(I)Z"⟩, 70) := ⟨⟨by decide +kernel, by decide +kernel⟩, List.mem_of_getElem? (i := 1420) (by decide +kernel), List.mem_of_getElem? (i := 2189) (by decide +kernel), List.mem_of_getElem? (i := 2190) (by decide +kernel)⟩
theorem lw_p126 : lw_okq (⟨"SidePondsModel", "isSo", "(I)Z"⟩, 70) := ⟨⟨by decide +kernel, by decide +kernel⟩, List.mem_of_getElem? (i := 1420) (by decide +kernel), List.mem_of_getElem? (i := 2193) (by decide +kernel), List.mem_of_getElem? (i := 2194) (by decide +kernel)⟩
theorem lw_p127 : lw_okq (⟨"SidePondsModel", "worstAt", "(II)I"⟩, 70) := ⟨⟨by decide +kernel, by decide +kernel⟩, List.mem_of_getElem? (i := 1420) (by decide +kernel), List.mem_of_getElem? (i := 2201) (by decide +kernel), List.mem_of_getElem? (i := 2202) (by decide +kernel)⟩
def lw_privs_8 : List (MethodName × Nat) := [(⟨"SidePondsModel", "drawsBy", "(I)V"⟩, 70), (⟨"SidePondsModel", "runsAll", "()I"⟩, 70), (⟨"SidePondsModel", "nextTo", "(I)I"⟩, 70), (⟨"SidePondsModel", "findsOne", "(II)Z"⟩, 70), (⟨"SidePondsModel", "otherOf", "(II)I"⟩, 70), (⟨"SidePondsModel", "roomFrom", "(II)I"⟩, 70), (⟨"SidePondsModel", "sends", "(II)I"⟩, 70), (⟨"SidePondsModel", "areTwo", "(II)Z"⟩, 70), (⟨"SidePondsModel", "restOf", "(III)I"⟩, 70), (⟨"SidePondsModel", "isRest", "(III)Z"⟩, 70), (⟨"SidePondsModel", "hasOf", "(IIII)I"⟩, 70), (⟨"SidePondsModel", "leaksOf", "(I)I"⟩, 70), (⟨"SidePondsModel", "knownMany", "()I"⟩, 70), (⟨"SidePondsModel", "fitsLeak", "(I)Z"⟩, 70), (⟨"SidePondsModel", "isSo", "(I)Z"⟩, 70), (⟨"SidePondsModel", "worstAt", "(II)I"⟩, 70)]
theorem lw_r8 : ∀ q ∈ lw_privs_8, lw_okq q := List.forall_mem_cons.mpr ⟨lw_p112, List.forall_mem_cons.mpr ⟨lw_p113, List.forall_mem_cons.mpr ⟨lw_p114, List.forall_mem_cons.mpr ⟨lw_p115, List.forall_mem_cons.mpr ⟨lw_p116, List.forall_mem_cons.mpr ⟨lw_p117, List.forall_mem_cons.mpr ⟨lw_p118, List.forall_mem_cons.mpr ⟨lw_p119, List.forall_mem_cons.mpr ⟨lw_p120, List.forall_mem_cons.mpr ⟨lw_p121, List.forall_mem_cons.mpr ⟨lw_p122, List.forall_mem_cons.mpr ⟨lw_p123, List.forall_mem_cons.mpr ⟨lw_p124, List.forall_mem_cons.mpr ⟨lw_p125, List.forall_mem_cons.mpr ⟨lw_p126, List.forall_mem_cons.mpr ⟨lw_p127, fun _ h => absurd h List.not_mem_nil⟩⟩⟩⟩⟩⟩⟩⟩⟩⟩⟩⟩⟩⟩⟩⟩
def lw_privs : List (MethodName × Nat) := lw_privs_1 ++ (lw_privs_2 ++ (lw_privs_3 ++ (lw_privs_4 ++ (lw_privs_5 ++ (lw_privs_6 ++ (lw_privs_7 ++ (lw_privs_8)))))))
def lw_tbl : List Cond := k2_sels lw_privs ++ tables_1
theorem lw_privs_ok : ∀ q ∈ lw_privs, lw_okq q := by
  show ∀ q ∈ lw_privs_1 ++ (lw_privs_2 ++ (lw_privs_3 ++ (lw_privs_4 ++ (lw_privs_5 ++ (lw_privs_6 ++ (lw_privs_7 ++ (lw_privs_8))))))), lw_okq q
  exact List.forall_mem_append.mpr ⟨lw_r1, List.forall_mem_append.mpr ⟨lw_r2, List.forall_mem_append.mpr ⟨lw_r3, List.forall_mem_append.mpr ⟨lw_r4, List.forall_mem_append.mpr ⟨lw_r5, List.forall_mem_append.mpr ⟨lw_r6, List.forall_mem_append.mpr ⟨lw_r7, lw_r8⟩⟩⟩⟩⟩⟩⟩
theorem goodIn_r {big : List Cond} (ws : List Cond) (ps : List Nat) (hp : ws = ps.filterMap (fun i => big[i]?)) (h : ws.all goodWord = true) : GoodIn big ws := by
  intro w hw
  have h1 := List.all_eq_true.mp h w hw
  rw [hp] at hw
  obtain ⟨i, -, hi⟩ := List.mem_filterMap.mp hw
  have hm : w ∈ big := by first | exact List.mem_of_getElem? hi | exact List.getElem?_mem hi
  exact ⟨hm, good_of_word h1⟩
theorem goodIn_app {big a b : List Cond} (ha : GoodIn big a) (hb : GoodIn big b) : GoodIn big (a ++ b) := fun w h => (List.mem_append.mp h).elim (ha w) (hb w)
theorem goodIn_ca {big a b : List Cond} {c : Cond} (ha : GoodIn big (c :: a)) (hb : GoodIn big b) : GoodIn big (c :: (a ++ b)) := fun w h => (List.mem_cons.mp h).elim (fun e => ha w (List.mem_cons.mpr (Or.inl e))) (fun h => (List.mem_append.mp h).elim (fun h => ha w (List.mem_cons.mpr (Or.inr h))) (hb w))
theorem goodIn_sub {big ws : List Cond} (hm : ∀ w ∈ ws, w ∈ big) (h : ws.all goodWord = true) : GoodIn big ws := fun w hw => ⟨hm w hw, good_of_word (List.all_eq_true.mp h w hw)⟩
def RX0 : String := "SidePonds$Canal"
def TX0 : u_T := fun k => match k with
  | 0 => ("SidePonds$Canal", "ponds", "I", false)
  | 1 => ("SidePonds$Canal", "name", "[I", true)
  | 2 => ("SidePonds$Canal", "area", "[I", true)
  | 3 => ("SidePonds$Canal", "floor", "[I", true)
  | 4 => ("SidePonds$Canal", "water", "[I", true)
  | 5 => ("SidePonds$Canal", "spring", "[I", true)
  | 6 => ("SidePonds$Canal", "pipes", "I", false)
  | 7 => ("SidePonds$Canal", "one", "[I", true)
  | 8 => ("SidePonds$Canal", "other", "[I", true)
  | 9 => ("SidePonds$Canal", "wide", "[I", true)
  | 10 => ("SidePonds$Canal", "turns", "I", false)
  | 11 => ("SidePonds$Canal", "turned", "[I", true)
  | 12 => ("SidePonds$Canal", "jam", "I", false)
  | 13 => ("SidePonds$Canal", "seed", "I", false)
  | 14 => ("SidePonds$Canal", "locks", "LSidePonds$Locks;", true)
  | _ => ("SidePonds$Canal", "laws", "LSidePonds$Laws;", true)
def tyX0 : Nat → FieldType := fun k => match k with
  | 0 => .int
  | 1 => .array .int
  | 2 => .array .int
  | 3 => .array .int
  | 4 => .array .int
  | 5 => .array .int
  | 6 => .int
  | 7 => .array .int
  | 8 => .array .int
  | 9 => .array .int
  | 10 => .int
  | 11 => .array .int
  | 12 => .int
  | 13 => .int
  | 14 => .object "SidePonds$Locks"
  | _ => .object "SidePonds$Laws"
abbrev wsX00 : List Cond := u_ws RX0 TX0 16
theorem nmX0 : ∀ a, a < 16 → ∀ b, b < 16 → a ≠ b → (TX0 a).2.1 ≠ (TX0 b).2.1 := by decide +kernel
theorem tyX0_ok : ∀ k, k < 16 → parseFieldDescriptor (TX0 k).2.2.1 = some (tyX0 k) := by decide +kernel
abbrev cX0_init : ByteArray := prog_2_method_1_code
def yX0_init : MethodName := ⟨RX0, "<init>", "()V"⟩
abbrev cX0_clear : ByteArray := prog_2_method_2_code
def yX0_clear : MethodName := ⟨RX0, "clear", "()V"⟩
abbrev cX0_hasAllOf : ByteArray := prog_2_method_3_code
def yX0_hasAllOf : MethodName := ⟨RX0, "hasAllOf", "(I)Z"⟩
abbrev cX0_addPond : ByteArray := prog_2_method_4_code
def yX0_addPond : MethodName := ⟨RX0, "addPond", "(IIII)V"⟩
abbrev cX0_addPipe : ByteArray := prog_2_method_5_code
def yX0_addPipe : MethodName := ⟨RX0, "addPipe", "(III)V"⟩
abbrev cX0_addTurn : ByteArray := prog_2_method_6_code
def yX0_addTurn : MethodName := ⟨RX0, "addTurn", "(III)V"⟩
abbrev cX0_pondNamed : ByteArray := prog_2_method_7_code
def yX0_pondNamed : MethodName := ⟨RX0, "pondNamed", "(I)I"⟩
abbrev cX0_hasPipe : ByteArray := prog_2_method_8_code
def yX0_hasPipe : MethodName := ⟨RX0, "hasPipe", "(II)Z"⟩
abbrev cX0_turnedIn : ByteArray := prog_2_method_9_code
def yX0_turnedIn : MethodName := ⟨RX0, "turnedIn", "(I)I"⟩
abbrev cX0_allPonds : ByteArray := prog_2_method_10_code
def yX0_allPonds : MethodName := ⟨RX0, "allPonds", "()I"⟩
abbrev cX0_allPipes : ByteArray := prog_2_method_11_code
def yX0_allPipes : MethodName := ⟨RX0, "allPipes", "()I"⟩
abbrev cX0_waterFor : ByteArray := prog_2_method_12_code
def yX0_waterFor : MethodName := ⟨RX0, "waterFor", "(II)I"⟩
abbrev cX0_liftOf : ByteArray := prog_2_method_13_code
def yX0_liftOf : MethodName := ⟨RX0, "liftOf", "(I)I"⟩
abbrev cX0_areaUpTo : ByteArray := prog_2_method_14_code
def yX0_areaUpTo : MethodName := ⟨RX0, "areaUpTo", "(II)J"⟩
abbrev cX0_bedUpTo : ByteArray := prog_2_method_15_code
def yX0_bedUpTo : MethodName := ⟨RX0, "bedUpTo", "(II)J"⟩
abbrev cX0_nextTo : ByteArray := prog_2_method_16_code
def yX0_nextTo : MethodName := ⟨RX0, "nextTo", "(II)I"⟩
abbrev cX0_wideAcross : ByteArray := prog_2_method_17_code
def yX0_wideAcross : MethodName := ⟨RX0, "wideAcross", "(II)I"⟩
def RX1 : String := "SidePonds$Facts"
def TX1 : u_T := fun k => match k with
  | 0 => ("SidePonds$Facts", "told", "I", false)
  | 1 => ("SidePonds$Facts", "knownBy", "I", false)
  | 2 => ("SidePonds$Facts", "kind", "[I", true)
  | 3 => ("SidePonds$Facts", "minutes", "[I", true)
  | 4 => ("SidePonds$Facts", "about", "[I", true)
  | 5 => ("SidePonds$Facts", "water", "[I", true)
  | _ => ("SidePonds$Facts", "struck", "[Z", true)
def tyX1 : Nat → FieldType := fun k => match k with
  | 0 => .int
  | 1 => .int
  | 2 => .array .int
  | 3 => .array .int
  | 4 => .array .int
  | 5 => .array .int
  | _ => .array .boolean
abbrev wsX10 : List Cond := u_ws RX1 TX1 7
theorem nmX1 : ∀ a, a < 7 → ∀ b, b < 7 → a ≠ b → (TX1 a).2.1 ≠ (TX1 b).2.1 := by decide +kernel
theorem tyX1_ok : ∀ k, k < 7 → parseFieldDescriptor (TX1 k).2.2.1 = some (tyX1 k) := by decide +kernel
abbrev cX1_init : ByteArray := prog_3_method_1_code
def yX1_init : MethodName := ⟨RX1, "<init>", "()V"⟩
abbrev cX1_clear : ByteArray := prog_3_method_2_code
def yX1_clear : MethodName := ⟨RX1, "clear", "()V"⟩
abbrev cX1_isFull : ByteArray := prog_3_method_3_code
def yX1_isFull : MethodName := ⟨RX1, "isFull", "()Z"⟩
abbrev cX1_add : ByteArray := prog_3_method_4_code
def yX1_add : MethodName := ⟨RX1, "add", "(IIII)I"⟩
abbrev cX1_knownCount : ByteArray := prog_3_method_5_code
def yX1_knownCount : MethodName := ⟨RX1, "knownCount", "()I"⟩
abbrev cX1_settle : ByteArray := prog_3_method_6_code
def yX1_settle : MethodName := ⟨RX1, "settle", "()V"⟩
abbrev cX1_counts : ByteArray := prog_3_method_7_code
def yX1_counts : MethodName := ⟨RX1, "counts", "(I)Z"⟩
abbrev cX1_lastKnownMinute : ByteArray := prog_3_method_8_code
def yX1_lastKnownMinute : MethodName := ⟨RX1, "lastKnownMinute", "()I"⟩
abbrev cX1_hold : ByteArray := prog_3_method_9_code
def yX1_hold : MethodName := ⟨RX1, "hold", "(I[I)Z"⟩
def RX2 : String := "SidePonds$History"
def TX2 : u_T := fun k => match k with
  | 0 => ("SidePonds$History", "held", "I", false)
  | 1 => ("SidePonds$History", "next", "I", false)
  | _ => ("SidePonds$History", "rows", "[I", true)
def tyX2 : Nat → FieldType := fun k => match k with
  | 0 => .int
  | 1 => .int
  | _ => .array .int
abbrev wsX20 : List Cond := u_ws RX2 TX2 3
theorem nmX2 : ∀ a, a < 3 → ∀ b, b < 3 → a ≠ b → (TX2 a).2.1 ≠ (TX2 b).2.1 := by decide +kernel
theorem tyX2_ok : ∀ k, k < 3 → parseFieldDescriptor (TX2 k).2.2.1 = some (tyX2 k) := by decide +kernel
abbrev cX2_init : ByteArray := prog_4_method_1_code
def yX2_init : MethodName := ⟨RX2, "<init>", "()V"⟩
abbrev cX2_clear : ByteArray := prog_4_method_2_code
def yX2_clear : MethodName := ⟨RX2, "clear", "()V"⟩
abbrev cX2_note : ByteArray := prog_4_method_3_code
def yX2_note : MethodName := ⟨RX2, "note", "(LSidePonds$Scene;)V"⟩
abbrev cX2_takeBack : ByteArray := prog_4_method_4_code
def yX2_takeBack : MethodName := ⟨RX2, "takeBack", "(LSidePonds$Scene;)Z"⟩
def RX3 : String := "SidePonds$Laws"
def TX3 : u_T := fun k => match k with
  | 0 => ("SidePonds$Laws", "length", "I", false)
  | 1 => ("SidePonds$Laws", "kind", "[I", true)
  | 2 => ("SidePonds$Laws", "value", "[I", true)
  | 3 => ("SidePonds$Laws", "from", "[I", true)
  | 4 => ("SidePonds$Laws", "to", "[I", true)
  | _ => ("SidePonds$Laws", "stack", "[J", true)
def tyX3 : Nat → FieldType := fun k => match k with
  | 0 => .int
  | 1 => .array .int
  | 2 => .array .int
  | 3 => .array .int
  | 4 => .array .int
  | _ => .array .long
abbrev wsX30 : List Cond := u_ws RX3 TX3 6
theorem nmX3 : ∀ a, a < 6 → ∀ b, b < 6 → a ≠ b → (TX3 a).2.1 ≠ (TX3 b).2.1 := by decide +kernel
theorem tyX3_ok : ∀ k, k < 6 → parseFieldDescriptor (TX3 k).2.2.1 = some (tyX3 k) := by decide +kernel
abbrev cX3_init : ByteArray := prog_5_method_1_code
def yX3_init : MethodName := ⟨RX3, "<init>", "()V"⟩
abbrev cX3_clear : ByteArray := prog_5_method_2_code
def yX3_clear : MethodName := ⟨RX3, "clear", "()V"⟩
abbrev cX3_begin : ByteArray := prog_5_method_3_code
def yX3_begin : MethodName := ⟨RX3, "begin", "(I)V"⟩
abbrev cX3_end : ByteArray := prog_5_method_4_code
def yX3_end : MethodName := ⟨RX3, "end", "(I)V"⟩
abbrev cX3_add : ByteArray := prog_5_method_5_code
def yX3_add : MethodName := ⟨RX3, "add", "(II)V"⟩
abbrev cX3_isTold : ByteArray := prog_5_method_6_code
def yX3_isTold : MethodName := ⟨RX3, "isTold", "(I)Z"⟩
abbrev cX3_worth : ByteArray := prog_5_method_7_code
def yX3_worth : MethodName := ⟨RX3, "worth", "(I[J)J"⟩
abbrev cX3_valueOf : ByteArray := prog_5_method_8_code
def yX3_valueOf : MethodName := ⟨RX3, "valueOf", "(IJJ)J"⟩
abbrev cX3_truth : ByteArray := prog_5_method_9_code
def yX3_truth : MethodName := ⟨RX3, "truth", "(Z)J"⟩
abbrev cX3_inBounds : ByteArray := prog_5_method_10_code
def yX3_inBounds : MethodName := ⟨RX3, "inBounds", "(J)J"⟩
abbrev cX3_product : ByteArray := prog_5_method_11_code
def yX3_product : MethodName := ⟨RX3, "product", "(JJ)J"⟩
def RX4 : String := "SidePonds$Locks"
def TX4 : u_T := fun k => match k with
  | 0 => ("SidePonds$Locks", "told", "I", false)
  | 1 => ("SidePonds$Locks", "pond", "[I", true)
  | 2 => ("SidePonds$Locks", "low", "[I", true)
  | 3 => ("SidePonds$Locks", "high", "[I", true)
  | 4 => ("SidePonds$Locks", "boats", "I", false)
  | 5 => ("SidePonds$Locks", "boatLock", "[I", true)
  | _ => ("SidePonds$Locks", "boatFrom", "[I", true)
def tyX4 : Nat → FieldType := fun k => match k with
  | 0 => .int
  | 1 => .array .int
  | 2 => .array .int
  | 3 => .array .int
  | 4 => .int
  | 5 => .array .int
  | _ => .array .int
abbrev wsX40 : List Cond := u_ws RX4 TX4 7
theorem nmX4 : ∀ a, a < 7 → ∀ b, b < 7 → a ≠ b → (TX4 a).2.1 ≠ (TX4 b).2.1 := by decide +kernel
theorem tyX4_ok : ∀ k, k < 7 → parseFieldDescriptor (TX4 k).2.2.1 = some (tyX4 k) := by decide +kernel
abbrev cX4_init : ByteArray := prog_6_method_1_code
def yX4_init : MethodName := ⟨RX4, "<init>", "()V"⟩
abbrev cX4_clear : ByteArray := prog_6_method_2_code
def yX4_clear : MethodName := ⟨RX4, "clear", "()V"⟩
abbrev cX4_add : ByteArray := prog_6_method_3_code
def yX4_add : MethodName := ⟨RX4, "add", "(III)V"⟩
abbrev cX4_addBoat : ByteArray := prog_6_method_4_code
def yX4_addBoat : MethodName := ⟨RX4, "addBoat", "(II)V"⟩
abbrev cX4_ofPond : ByteArray := prog_6_method_5_code
def yX4_ofPond : MethodName := ⟨RX4, "ofPond", "(I)I"⟩
abbrev cX4_pondOfBoat : ByteArray := prog_6_method_6_code
def yX4_pondOfBoat : MethodName := ⟨RX4, "pondOfBoat", "(I)I"⟩
def RX5 : String := "SidePonds$Minutes"
def TX5 : u_T := fun k => match k with
  | 0 => ("SidePonds$Minutes", "drawn", "Z", false)
  | 1 => ("SidePonds$Minutes", "jamming", "Z", false)
  | 2 => ("SidePonds$Minutes", "leaking", "Z", false)
  | 3 => ("SidePonds$Minutes", "springing", "Z", false)
  | 4 => ("SidePonds$Minutes", "allOpen", "Z", false)
  | 5 => ("SidePonds$Minutes", "shut", "I", false)
  | 6 => ("SidePonds$Minutes", "leakPond", "I", false)
  | 7 => ("SidePonds$Minutes", "leakBy", "I", false)
  | _ => ("SidePonds$Minutes", "names", "[J", true)
def tyX5 : Nat → FieldType := fun k => match k with
  | 0 => .boolean
  | 1 => .boolean
  | 2 => .boolean
  | 3 => .boolean
  | 4 => .boolean
  | 5 => .int
  | 6 => .int
  | 7 => .int
  | _ => .array .long
abbrev wsX50 : List Cond := u_ws RX5 TX5 9
theorem nmX5 : ∀ a, a < 9 → ∀ b, b < 9 → a ≠ b → (TX5 a).2.1 ≠ (TX5 b).2.1 := by decide +kernel
theorem tyX5_ok : ∀ k, k < 9 → parseFieldDescriptor (TX5 k).2.2.1 = some (tyX5 k) := by decide +kernel
abbrev cX5_init : ByteArray := prog_7_method_1_code
def yX5_init : MethodName := ⟨RX5, "<init>", "()V"⟩
abbrev cX5_asItGoes : ByteArray := prog_7_method_2_code
def yX5_asItGoes : MethodName := ⟨RX5, "asItGoes", "()V"⟩
abbrev cX5_advance : ByteArray := prog_7_method_3_code
def yX5_advance : MethodName := ⟨RX5, "advance", "(LSidePonds$Scene;I)V"⟩
abbrev cX5_oneMinute : ByteArray := prog_7_method_4_code
def yX5_oneMinute : MethodName := ⟨RX5, "oneMinute", "(LSidePonds$Scene;)V"⟩
abbrev cX5_letSprings : ByteArray := prog_7_method_5_code
def yX5_letSprings : MethodName := ⟨RX5, "letSprings", "(LSidePonds$Scene;)V"⟩
abbrev cX5_letPipes : ByteArray := prog_7_method_6_code
def yX5_letPipes : MethodName := ⟨RX5, "letPipes", "(LSidePonds$Scene;)V"⟩
abbrev cX5_jamsNow : ByteArray := prog_7_method_7_code
def yX5_jamsNow : MethodName := ⟨RX5, "jamsNow", "(LSidePonds$Scene;)Z"⟩
abbrev cX5_letLeaks : ByteArray := prog_7_method_8_code
def yX5_letLeaks : MethodName := ⟨RX5, "letLeaks", "(LSidePonds$Scene;)V"⟩
abbrev cX5_letBoats : ByteArray := prog_7_method_9_code
def yX5_letBoats : MethodName := ⟨RX5, "letBoats", "(LSidePonds$Scene;)V"⟩
abbrev cX5_openNow : ByteArray := prog_7_method_10_code
def yX5_openNow : MethodName := ⟨RX5, "openNow", "(LSidePonds$Scene;)I"⟩
abbrev cX5_put : ByteArray := prog_7_method_11_code
def yX5_put : MethodName := ⟨RX5, "put", "(JII)I"⟩
abbrev cX5_worth : ByteArray := prog_7_method_12_code
def yX5_worth : MethodName := ⟨RX5, "worth", "(LSidePonds$Scene;III)J"⟩
def RX6 : String := "SidePonds$Openings"
def TX6 : u_T := fun k => match k with
  | 0 => ("SidePonds$Openings", "fewestOpened", "I", false)
  | 1 => ("SidePonds$Openings", "firstOpened", "I", false)
  | 2 => ("SidePonds$Openings", "leastDrawn", "I", false)
  | 3 => ("SidePonds$Openings", "pond", "I", false)
  | 4 => ("SidePonds$Openings", "height", "I", false)
  | 5 => ("SidePonds$Openings", "from", "I", false)
  | _ => ("SidePonds$Openings", "had", "I", false)
def tyX6 : Nat → FieldType := fun k => match k with
  | 0 => .int
  | 1 => .int
  | 2 => .int
  | 3 => .int
  | 4 => .int
  | 5 => .int
  | _ => .int
abbrev wsX60 : List Cond := u_ws RX6 TX6 7
theorem nmX6 : ∀ a, a < 7 → ∀ b, b < 7 → a ≠ b → (TX6 a).2.1 ≠ (TX6 b).2.1 := by decide +kernel
theorem tyX6_ok : ∀ k, k < 7 → parseFieldDescriptor (TX6 k).2.2.1 = some (tyX6 k) := by decide +kernel
abbrev cX6_init : ByteArray := prog_8_method_1_code
def yX6_init : MethodName := ⟨RX6, "<init>", "()V"⟩
abbrev cX6_seek : ByteArray := prog_8_method_2_code
def yX6_seek : MethodName := ⟨RX6, "seek", "(LSidePonds$Scene;III)V"⟩
abbrev cX6_open : ByteArray := prog_8_method_3_code
def yX6_open : MethodName := ⟨RX6, "open", "(LSidePonds$Scene;II)V"⟩
abbrev cX6_note : ByteArray := prog_8_method_4_code
def yX6_note : MethodName := ⟨RX6, "note", "(III)V"⟩
def RX7 : String := "SidePonds$Reader"
def TX7 : u_T := fun k => match k with
  | 0 => ("SidePonds$Reader", "tape", "LSidePonds$Tape;", true)
  | 1 => ("SidePonds$Reader", "canal", "LSidePonds$Canal;", false)
  | 2 => ("SidePonds$Reader", "fault", "I", false)
  | 3 => ("SidePonds$Reader", "place", "I", false)
  | 4 => ("SidePonds$Reader", "lines", "I", false)
  | 5 => ("SidePonds$Reader", "springsTold", "I", false)
  | 6 => ("SidePonds$Reader", "jamTold", "Z", false)
  | 7 => ("SidePonds$Reader", "seedTold", "Z", false)
  | 8 => ("SidePonds$Reader", "knots", "I", false)
  | _ => ("SidePonds$Reader", "brackets", "I", false)
def tyX7 : Nat → FieldType := fun k => match k with
  | 0 => .object "SidePonds$Tape"
  | 1 => .object "SidePonds$Canal"
  | 2 => .int
  | 3 => .int
  | 4 => .int
  | 5 => .int
  | 6 => .boolean
  | 7 => .boolean
  | 8 => .int
  | _ => .int
abbrev wsX70 : List Cond := u_ws RX7 TX7 10
theorem nmX7 : ∀ a, a < 10 → ∀ b, b < 10 → a ≠ b → (TX7 a).2.1 ≠ (TX7 b).2.1 := by decide +kernel
theorem tyX7_ok : ∀ k, k < 10 → parseFieldDescriptor (TX7 k).2.2.1 = some (tyX7 k) := by decide +kernel
abbrev cX7_init : ByteArray := prog_9_method_1_code
def yX7_init : MethodName := ⟨RX7, "<init>", "()V"⟩
abbrev cX7_read : ByteArray := prog_9_method_2_code
def yX7_read : MethodName := ⟨RX7, "read", "(I)V"⟩
abbrev cX7_fail : ByteArray := prog_9_method_3_code
def yX7_fail : MethodName := ⟨RX7, "fail", "(II)V"⟩
abbrev cX7_readLine : ByteArray := prog_9_method_4_code
def yX7_readLine : MethodName := ⟨RX7, "readLine", "()V"⟩
abbrev cX7_readPond : ByteArray := prog_9_method_5_code
def yX7_readPond : MethodName := ⟨RX7, "readPond", "()V"⟩
abbrev cX7_readLock : ByteArray := prog_9_method_6_code
def yX7_readLock : MethodName := ⟨RX7, "readLock", "()V"⟩
abbrev cX7_readPipe : ByteArray := prog_9_method_7_code
def yX7_readPipe : MethodName := ⟨RX7, "readPipe", "()V"⟩
abbrev cX7_readTurn : ByteArray := prog_9_method_8_code
def yX7_readTurn : MethodName := ⟨RX7, "readTurn", "()V"⟩
abbrev cX7_readBoat : ByteArray := prog_9_method_9_code
def yX7_readBoat : MethodName := ⟨RX7, "readBoat", "()V"⟩
abbrev cX7_readSpring : ByteArray := prog_9_method_10_code
def yX7_readSpring : MethodName := ⟨RX7, "readSpring", "()V"⟩
abbrev cX7_readJam : ByteArray := prog_9_method_11_code
def yX7_readJam : MethodName := ⟨RX7, "readJam", "()V"⟩
abbrev cX7_readSeed : ByteArray := prog_9_method_12_code
def yX7_readSeed : MethodName := ⟨RX7, "readSeed", "()V"⟩
abbrev cX7_readLaw : ByteArray := prog_9_method_13_code
def yX7_readLaw : MethodName := ⟨RX7, "readLaw", "()V"⟩
abbrev cX7_readRanked : ByteArray := prog_9_method_14_code
def yX7_readRanked : MethodName := ⟨RX7, "readRanked", "(I)V"⟩
abbrev cX7_rankOf : ByteArray := prog_9_method_15_code
def yX7_rankOf : MethodName := ⟨RX7, "rankOf", "(I)I"⟩
abbrev cX7_readDenied : ByteArray := prog_9_method_16_code
def yX7_readDenied : MethodName := ⟨RX7, "readDenied", "()V"⟩
abbrev cX7_readPart : ByteArray := prog_9_method_17_code
def yX7_readPart : MethodName := ⟨RX7, "readPart", "()V"⟩
abbrev cX7_takeKnot : ByteArray := prog_9_method_18_code
def yX7_takeKnot : MethodName := ⟨RX7, "takeKnot", "()V"⟩
abbrev cX7_take : ByteArray := prog_9_method_19_code
def yX7_take : MethodName := ⟨RX7, "take", "(I)V"⟩
abbrev cX7_number : ByteArray := prog_9_method_20_code
def yX7_number : MethodName := ⟨RX7, "number", "(II)I"⟩
abbrev cX7_ownWord : ByteArray := prog_9_method_21_code
def yX7_ownWord : MethodName := ⟨RX7, "ownWord", "()I"⟩
abbrev cX7_toldPond : ByteArray := prog_9_method_22_code
def yX7_toldPond : MethodName := ⟨RX7, "toldPond", "()I"⟩
def RX8 : String := "SidePonds$Scene"
def TX8 : u_T := fun k => match k with
  | 0 => ("SidePonds$Scene", "canal", "LSidePonds$Canal;", false)
  | 1 => ("SidePonds$Scene", "water", "[I", true)
  | 2 => ("SidePonds$Scene", "jammed", "I", false)
  | 3 => ("SidePonds$Scene", "stage", "[I", true)
  | 4 => ("SidePonds$Scene", "waited", "[I", true)
  | 5 => ("SidePonds$Scene", "toll", "I", false)
  | 6 => ("SidePonds$Scene", "minute", "I", false)
  | _ => ("SidePonds$Scene", "number", "I", false)
def tyX8 : Nat → FieldType := fun k => match k with
  | 0 => .object "SidePonds$Canal"
  | 1 => .array .int
  | 2 => .int
  | 3 => .array .int
  | 4 => .array .int
  | 5 => .int
  | 6 => .int
  | _ => .int
abbrev wsX80 : List Cond := u_ws RX8 TX8 8
theorem nmX8 : ∀ a, a < 8 → ∀ b, b < 8 → a ≠ b → (TX8 a).2.1 ≠ (TX8 b).2.1 := by decide +kernel
theorem tyX8_ok : ∀ k, k < 8 → parseFieldDescriptor (TX8 k).2.2.1 = some (tyX8 k) := by decide +kernel
abbrev cX8_init : ByteArray := prog_10_method_1_code
def yX8_init : MethodName := ⟨RX8, "<init>", "(LSidePonds$Canal;)V"⟩
abbrev cX8_begin : ByteArray := prog_10_method_2_code
def yX8_begin : MethodName := ⟨RX8, "begin", "(LSidePonds$Canal;)V"⟩
abbrev cX8_become : ByteArray := prog_10_method_3_code
def yX8_become : MethodName := ⟨RX8, "become", "(LSidePonds$Scene;)V"⟩
abbrev cX8_raised : ByteArray := prog_10_method_4_code
def yX8_raised : MethodName := ⟨RX8, "raised", "(I)I"⟩
abbrev cX8_higherBy : ByteArray := prog_10_method_5_code
def yX8_higherBy : MethodName := ⟨RX8, "higherBy", "(II)I"⟩
abbrev cX8_isAtLeast : ByteArray := prog_10_method_6_code
def yX8_isAtLeast : MethodName := ⟨RX8, "isAtLeast", "(II)Z"⟩
abbrev cX8_isAtMost : ByteArray := prog_10_method_7_code
def yX8_isAtMost : MethodName := ⟨RX8, "isAtMost", "(II)Z"⟩
abbrev cX8_isJammed : ByteArray := prog_10_method_8_code
def yX8_isJammed : MethodName := ⟨RX8, "isJammed", "(I)Z"⟩
abbrev cX8_giver : ByteArray := prog_10_method_9_code
def yX8_giver : MethodName := ⟨RX8, "giver", "(I)I"⟩
abbrev cX8_movable : ByteArray := prog_10_method_10_code
def yX8_movable : MethodName := ⟨RX8, "movable", "(I)I"⟩
abbrev cX8_run : ByteArray := prog_10_method_11_code
def yX8_run : MethodName := ⟨RX8, "run", "(II)I"⟩
abbrev cX8_move : ByteArray := prog_10_method_12_code
def yX8_move : MethodName := ⟨RX8, "move", "(III)V"⟩
abbrev cX8_runAll : ByteArray := prog_10_method_13_code
def yX8_runAll : MethodName := ⟨RX8, "runAll", "()I"⟩
abbrev cX8_pour : ByteArray := prog_10_method_14_code
def yX8_pour : MethodName := ⟨RX8, "pour", "(II)V"⟩
abbrev cX8_lose : ByteArray := prog_10_method_15_code
def yX8_lose : MethodName := ⟨RX8, "lose", "(II)V"⟩
abbrev cX8_waterOf : ByteArray := prog_10_method_16_code
def yX8_waterOf : MethodName := ⟨RX8, "waterOf", "(I)I"⟩
abbrev cX8_boatIn : ByteArray := prog_10_method_17_code
def yX8_boatIn : MethodName := ⟨RX8, "boatIn", "(I)I"⟩
abbrev cX8_letIn : ByteArray := prog_10_method_18_code
def yX8_letIn : MethodName := ⟨RX8, "letIn", "(II)V"⟩
abbrev cX8_canGoUp : ByteArray := prog_10_method_19_code
def yX8_canGoUp : MethodName := ⟨RX8, "canGoUp", "(II)Z"⟩
abbrev cX8_boatsThatAre : ByteArray := prog_10_method_20_code
def yX8_boatsThatAre : MethodName := ⟨RX8, "boatsThatAre", "(I)I"⟩
abbrev cX8_waitedByAll : ByteArray := prog_10_method_21_code
def yX8_waitedByAll : MethodName := ⟨RX8, "waitedByAll", "()I"⟩
abbrev cX8_nextNumber : ByteArray := prog_10_method_22_code
def yX8_nextNumber : MethodName := ⟨RX8, "nextNumber", "()I"⟩
def RX9 : String := "SidePonds$Tape"
def TX9 : u_T := fun k => match k with
  | 0 => ("SidePonds$Tape", "held", "I", false)
  | 1 => ("SidePonds$Tape", "bytes", "[I", true)
  | 2 => ("SidePonds$Tape", "kinds", "[I", true)
  | 3 => ("SidePonds$Tape", "places", "[I", true)
  | 4 => ("SidePonds$Tape", "values", "[I", true)
  | 5 => ("SidePonds$Tape", "tokens", "I", false)
  | _ => ("SidePonds$Tape", "at", "I", false)
def tyX9 : Nat → FieldType := fun k => match k with
  | 0 => .int
  | 1 => .array .int
  | 2 => .array .int
  | 3 => .array .int
  | 4 => .array .int
  | 5 => .int
  | _ => .int
abbrev wsX90 : List Cond := u_ws RX9 TX9 7
theorem nmX9 : ∀ a, a < 7 → ∀ b, b < 7 → a ≠ b → (TX9 a).2.1 ≠ (TX9 b).2.1 := by decide +kernel
theorem tyX9_ok : ∀ k, k < 7 → parseFieldDescriptor (TX9 k).2.2.1 = some (tyX9 k) := by decide +kernel
abbrev cX9_init : ByteArray := prog_11_method_1_code
def yX9_init : MethodName := ⟨RX9, "<init>", "()V"⟩
abbrev cX9_hasRoom : ByteArray := prog_11_method_2_code
def yX9_hasRoom : MethodName := ⟨RX9, "hasRoom", "()Z"⟩
abbrev cX9_append : ByteArray := prog_11_method_3_code
def yX9_append : MethodName := ⟨RX9, "append", "(I)V"⟩
abbrev cX9_open : ByteArray := prog_11_method_4_code
def yX9_open : MethodName := ⟨RX9, "open", "(I)V"⟩
abbrev cX9_add : ByteArray := prog_11_method_5_code
def yX9_add : MethodName := ⟨RX9, "add", "(III)V"⟩
abbrev cX9_isLetter : ByteArray := prog_11_method_6_code
def yX9_isLetter : MethodName := ⟨RX9, "isLetter", "(I)Z"⟩
abbrev cX9_isDigit : ByteArray := prog_11_method_7_code
def yX9_isDigit : MethodName := ⟨RX9, "isDigit", "(I)Z"⟩
abbrev cX9_addWord : ByteArray := prog_11_method_8_code
def yX9_addWord : MethodName := ⟨RX9, "addWord", "(II)I"⟩
abbrev cX9_packed : ByteArray := prog_11_method_9_code
def yX9_packed : MethodName := ⟨RX9, "packed", "(III)I"⟩
abbrev cX9_kindOfWord : ByteArray := prog_11_method_10_code
def yX9_kindOfWord : MethodName := ⟨RX9, "kindOfWord", "(I)I"⟩
abbrev cX9_addNumber : ByteArray := prog_11_method_11_code
def yX9_addNumber : MethodName := ⟨RX9, "addNumber", "(II)I"⟩
abbrev cX9_addSign : ByteArray := prog_11_method_12_code
def yX9_addSign : MethodName := ⟨RX9, "addSign", "(II)I"⟩
abbrev cX9_withSecond : ByteArray := prog_11_method_13_code
def yX9_withSecond : MethodName := ⟨RX9, "withSecond", "(II)I"⟩
abbrev cX9_kind : ByteArray := prog_11_method_14_code
def yX9_kind : MethodName := ⟨RX9, "kind", "()I"⟩
abbrev cX9_place : ByteArray := prog_11_method_15_code
def yX9_place : MethodName := ⟨RX9, "place", "()I"⟩
abbrev cX9_value : ByteArray := prog_11_method_16_code
def yX9_value : MethodName := ⟨RX9, "value", "()I"⟩
abbrev cX9_advance : ByteArray := prog_11_method_17_code
def yX9_advance : MethodName := ⟨RX9, "advance", "()V"⟩
def RX10 : String := "SidePonds"
def TX10 : u_T := fun k => match k with
  | 0 => ("SidePonds", "reader", "LSidePonds$Reader;", true)
  | 1 => ("SidePonds", "now", "LSidePonds$Scene;", true)
  | 2 => ("SidePonds", "image", "LSidePonds$Scene;", true)
  | 3 => ("SidePonds", "trial", "LSidePonds$Scene;", true)
  | 4 => ("SidePonds", "minutes", "LSidePonds$Minutes;", true)
  | 5 => ("SidePonds", "openings", "LSidePonds$Openings;", true)
  | 6 => ("SidePonds", "facts", "LSidePonds$Facts;", true)
  | 7 => ("SidePonds", "history", "LSidePonds$History;", true)
  | 8 => ("SidePonds", "seen", "[I", true)
  | 9 => ("SidePonds", "canal", "LSidePonds$Canal;", false)
  | 10 => ("SidePonds", "imageKept", "Z", false)
  | 11 => ("SidePonds", "latestFault", "I", false)
  | _ => ("SidePonds", "latestPlace", "I", false)
def tyX10 : Nat → FieldType := fun k => match k with
  | 0 => .object "SidePonds$Reader"
  | 1 => .object "SidePonds$Scene"
  | 2 => .object "SidePonds$Scene"
  | 3 => .object "SidePonds$Scene"
  | 4 => .object "SidePonds$Minutes"
  | 5 => .object "SidePonds$Openings"
  | 6 => .object "SidePonds$Facts"
  | 7 => .object "SidePonds$History"
  | 8 => .array .int
  | 9 => .object "SidePonds$Canal"
  | 10 => .boolean
  | 11 => .int
  | _ => .int
abbrev wsX100 : List Cond := u_ws RX10 TX10 13
theorem nmX10 : ∀ a, a < 13 → ∀ b, b < 13 → a ≠ b → (TX10 a).2.1 ≠ (TX10 b).2.1 := by decide +kernel
theorem tyX10_ok : ∀ k, k < 13 → parseFieldDescriptor (TX10 k).2.2.1 = some (tyX10 k) := by decide +kernel
abbrev cX10_init : ByteArray := prog_1_method_1_code
def yX10_init : MethodName := ⟨RX10, "<init>", "()V"⟩
abbrev cX10_feed : ByteArray := prog_1_method_2_code
def yX10_feed : MethodName := ⟨RX10, "feed", "(IIIII)I"⟩
abbrev cX10_text : ByteArray := prog_1_method_3_code
def yX10_text : MethodName := ⟨RX10, "text", "(I)I"⟩
abbrev cX10_fault : ByteArray := prog_1_method_4_code
def yX10_fault : MethodName := ⟨RX10, "fault", "(I)I"⟩
abbrev cX10_named : ByteArray := prog_1_method_5_code
def yX10_named : MethodName := ⟨RX10, "named", "(I)I"⟩
abbrev cX10_pond : ByteArray := prog_1_method_6_code
def yX10_pond : MethodName := ⟨RX10, "pond", "(II)I"⟩
abbrev cX10_level : ByteArray := prog_1_method_7_code
def yX10_level : MethodName := ⟨RX10, "level", "(II)I"⟩
abbrev cX10_pipe : ByteArray := prog_1_method_8_code
def yX10_pipe : MethodName := ⟨RX10, "pipe", "(II)I"⟩
abbrev cX10_lock : ByteArray := prog_1_method_9_code
def yX10_lock : MethodName := ⟨RX10, "lock", "(II)I"⟩
abbrev cX10_boat : ByteArray := prog_1_method_10_code
def yX10_boat : MethodName := ⟨RX10, "boat", "(II)I"⟩
abbrev cX10_law : ByteArray := prog_1_method_11_code
def yX10_law : MethodName := ⟨RX10, "law", "(II)J"⟩
abbrev cX10_runs : ByteArray := prog_1_method_12_code
def yX10_runs : MethodName := ⟨RX10, "runs", "(II)I"⟩
abbrev cX10_draw : ByteArray := prog_1_method_13_code
def yX10_draw : MethodName := ⟨RX10, "draw", "(II)I"⟩
abbrev cX10_fill : ByteArray := prog_1_method_14_code
def yX10_fill : MethodName := ⟨RX10, "fill", "(II)I"⟩
abbrev cX10_spill : ByteArray := prog_1_method_15_code
def yX10_spill : MethodName := ⟨RX10, "spill", "(II)I"⟩
abbrev cX10_mend : ByteArray := prog_1_method_16_code
def yX10_mend : MethodName := ⟨RX10, "mend", "(I)Z"⟩
abbrev cX10_go : ByteArray := prog_1_method_17_code
def yX10_go : MethodName := ⟨RX10, "go", "(I)I"⟩
abbrev cX10_ahead : ByteArray := prog_1_method_18_code
def yX10_ahead : MethodName := ⟨RX10, "ahead", "(III)I"⟩
abbrev cX10_upWhen : ByteArray := prog_1_method_19_code
def yX10_upWhen : MethodName := ⟨RX10, "upWhen", "(I)I"⟩
abbrev cX10_joined : ByteArray := prog_1_method_20_code
def yX10_joined : MethodName := ⟨RX10, "joined", "(II)I"⟩
abbrev cX10_needs : ByteArray := prog_1_method_21_code
def yX10_needs : MethodName := ⟨RX10, "needs", "(II)I"⟩
abbrev cX10_spare : ByteArray := prog_1_method_22_code
def yX10_spare : MethodName := ⟨RX10, "spare", "(II)I"⟩
abbrev cX10_lift : ByteArray := prog_1_method_23_code
def yX10_lift : MethodName := ⟨RX10, "lift", "(I)I"⟩
abbrev cX10_fewest : ByteArray := prog_1_method_24_code
def yX10_fewest : MethodName := ⟨RX10, "fewest", "(III)I"⟩
abbrev cX10_draws : ByteArray := prog_1_method_25_code
def yX10_draws : MethodName := ⟨RX10, "draws", "(III)I"⟩
abbrev cX10_highest : ByteArray := prog_1_method_26_code
def yX10_highest : MethodName := ⟨RX10, "highest", "(I)I"⟩
abbrev cX10_apart : ByteArray := prog_1_method_27_code
def yX10_apart : MethodName := ⟨RX10, "apart", "(III)I"⟩
abbrev cX10_still : ByteArray := prog_1_method_28_code
def yX10_still : MethodName := ⟨RX10, "still", "(II)I"⟩
abbrev cX10_reach : ByteArray := prog_1_method_29_code
def yX10_reach : MethodName := ⟨RX10, "reach", "(I)I"⟩
abbrev cX10_pass : ByteArray := prog_1_method_30_code
def yX10_pass : MethodName := ⟨RX10, "pass", "(II)I"⟩
abbrev cX10_lockfuls : ByteArray := prog_1_method_31_code
def yX10_lockfuls : MethodName := ⟨RX10, "lockfuls", "(II)I"⟩
abbrev cX10_game : ByteArray := prog_1_method_32_code
def yX10_game : MethodName := ⟨RX10, "game", "(III)I"⟩
abbrev cX10_rests : ByteArray := prog_1_method_33_code
def yX10_rests : MethodName := ⟨RX10, "rests", "(II)I"⟩
abbrev cX10_rest : ByteArray := prog_1_method_34_code
def yX10_rest : MethodName := ⟨RX10, "rest", "(III)I"⟩
abbrev cX10_holds : ByteArray := prog_1_method_35_code
def yX10_holds : MethodName := ⟨RX10, "holds", "(II)J"⟩
abbrev cX10_see : ByteArray := prog_1_method_36_code
def yX10_see : MethodName := ⟨RX10, "see", "(IIIZ)I"⟩
abbrev cX10_strike : ByteArray := prog_1_method_37_code
def yX10_strike : MethodName := ⟨RX10, "strike", "(I)I"⟩
abbrev cX10_known : ByteArray := prog_1_method_38_code
def yX10_known : MethodName := ⟨RX10, "known", "(I)Z"⟩
abbrev cX10_leaks : ByteArray := prog_1_method_39_code
def yX10_leaks : MethodName := ⟨RX10, "leaks", "(I)I"⟩
abbrev cX10_ask : ByteArray := prog_1_method_40_code
def yX10_ask : MethodName := ⟨RX10, "ask", "(II)I"⟩
abbrev cX10_chance : ByteArray := prog_1_method_41_code
def yX10_chance : MethodName := ⟨RX10, "chance", "(III)I"⟩
abbrev cX10_tried : ByteArray := prog_1_method_42_code
def yX10_tried : MethodName := ⟨RX10, "tried", "(III)I"⟩
abbrev cX10_undo : ByteArray := prog_1_method_43_code
def yX10_undo : MethodName := ⟨RX10, "undo", "()I"⟩
abbrev cX10_keep : ByteArray := prog_1_method_44_code
def yX10_keep : MethodName := ⟨RX10, "keep", "()I"⟩
abbrev cX10_back : ByteArray := prog_1_method_45_code
def yX10_back : MethodName := ⟨RX10, "back", "()I"⟩
abbrev cX10_count : ByteArray := prog_1_method_46_code
def yX10_count : MethodName := ⟨RX10, "count", "(I)I"⟩
abbrev cX10_isPond : ByteArray := prog_1_method_47_code
def yX10_isPond : MethodName := ⟨RX10, "isPond", "(I)Z"⟩
abbrev cX10_isPipe : ByteArray := prog_1_method_48_code
def yX10_isPipe : MethodName := ⟨RX10, "isPipe", "(I)Z"⟩
abbrev cX10_isLock : ByteArray := prog_1_method_49_code
def yX10_isLock : MethodName := ⟨RX10, "isLock", "(I)Z"⟩
abbrev cX10_isBoat : ByteArray := prog_1_method_50_code
def yX10_isBoat : MethodName := ⟨RX10, "isBoat", "(I)Z"⟩
abbrev cX10_isHalf : ByteArray := prog_1_method_51_code
def yX10_isHalf : MethodName := ⟨RX10, "isHalf", "(I)Z"⟩
abbrev cX10_isHeight : ByteArray := prog_1_method_52_code
def yX10_isHeight : MethodName := ⟨RX10, "isHeight", "(I)Z"⟩
abbrev cX10_isBucket : ByteArray := prog_1_method_53_code
def yX10_isBucket : MethodName := ⟨RX10, "isBucket", "(I)Z"⟩
abbrev cX10_orWithout : ByteArray := prog_1_method_54_code
def yX10_orWithout : MethodName := ⟨RX10, "orWithout", "(I)I"⟩
abbrev cX10_inLeastTerms : ByteArray := prog_1_method_55_code
def yX10_inLeastTerms : MethodName := ⟨RX10, "inLeastTerms", "(JJI)J"⟩
abbrev cX10_isRest : ByteArray := prog_1_method_56_code
def yX10_isRest : MethodName := ⟨RX10, "isRest", "(III)Z"⟩
abbrev cX10_keeperHas : ByteArray := prog_1_method_57_code
def yX10_keeperHas : MethodName := ⟨RX10, "keeperHas", "(IIII)I"⟩
abbrev cX10_weigh : ByteArray := prog_1_method_58_code
def yX10_weigh : MethodName := ⟨RX10, "weigh", "(II)I"⟩
abbrev cX10_leftAtWorst : ByteArray := prog_1_method_59_code
def yX10_leftAtWorst : MethodName := ⟨RX10, "leftAtWorst", "(II)I"⟩
def RX11 : String := "SidePondsModel"
def TX11 : u_T := fun k => match k with
  | 0 => ("SidePondsModel", "thrown", "I", false)
  | 1 => ("SidePondsModel", "tape", "[I", true)
  | 2 => ("SidePondsModel", "taped", "I", false)
  | 3 => ("SidePondsModel", "number", "[I", true)
  | 4 => ("SidePondsModel", "pondName", "[I", true)
  | 5 => ("SidePondsModel", "areaOf", "[I", true)
  | 6 => ("SidePondsModel", "floorOf", "[I", true)
  | 7 => ("SidePondsModel", "waterAs", "[I", true)
  | 8 => ("SidePondsModel", "springOf", "[I", true)
  | 9 => ("SidePondsModel", "lockPond", "[I", true)
  | 10 => ("SidePondsModel", "lowOf", "[I", true)
  | 11 => ("SidePondsModel", "highOf", "[I", true)
  | 12 => ("SidePondsModel", "pipeOne", "[I", true)
  | 13 => ("SidePondsModel", "pipeTwo", "[I", true)
  | 14 => ("SidePondsModel", "wideOf", "[I", true)
  | 15 => ("SidePondsModel", "turnPipe", "[I", true)
  | 16 => ("SidePondsModel", "turnAt", "[I", true)
  | 17 => ("SidePondsModel", "turnFor", "[I", true)
  | 18 => ("SidePondsModel", "boatLock", "[I", true)
  | 19 => ("SidePondsModel", "boatAt", "[I", true)
  | 20 => ("SidePondsModel", "sumFrom", "[I", true)
  | 21 => ("SidePondsModel", "sumTo", "[I", true)
  | 22 => ("SidePondsModel", "knotSort", "[I", true)
  | 23 => ("SidePondsModel", "knotValue", "[I", true)
  | 24 => ("SidePondsModel", "told", "I", false)
  | 25 => ("SidePondsModel", "lines", "I", false)
  | 26 => ("SidePondsModel", "size", "I", false)
  | 27 => ("SidePondsModel", "at", "I", false)
  | 28 => ("SidePondsModel", "place", "I", false)
  | 29 => ("SidePondsModel", "sort", "I", false)
  | 30 => ("SidePondsModel", "value", "I", false)
  | 31 => ("SidePondsModel", "fault", "I", false)
  | 32 => ("SidePondsModel", "faultPlace", "I", false)
  | 33 => ("SidePondsModel", "lastFault", "I", false)
  | 34 => ("SidePondsModel", "lastPlace", "I", false)
  | 35 => ("SidePondsModel", "open", "I", false)
  | 36 => ("SidePondsModel", "counted", "I", false)
  | 37 => ("SidePondsModel", "names", "[J", true)
  | 38 => ("SidePondsModel", "worked", "[J", true)
  | 39 => ("SidePondsModel", "workedMany", "I", false)
  | 40 => ("SidePondsModel", "minute", "[I", true)
  | 41 => ("SidePondsModel", "drawn", "[I", true)
  | 42 => ("SidePondsModel", "tolls", "[I", true)
  | 43 => ("SidePondsModel", "jammed", "[I", true)
  | 44 => ("SidePondsModel", "waterOf", "[I", true)
  | 45 => ("SidePondsModel", "boatHow", "[I", true)
  | 46 => ("SidePondsModel", "waitedOf", "[I", true)
  | 47 => ("SidePondsModel", "hasImage", "Z", false)
  | 48 => ("SidePondsModel", "undoMany", "I", false)
  | 49 => ("SidePondsModel", "tryWhat", "I", false)
  | 50 => ("SidePondsModel", "tryPipe", "I", false)
  | 51 => ("SidePondsModel", "leakOne", "I", false)
  | 52 => ("SidePondsModel", "leakTried", "I", false)
  | 53 => ("SidePondsModel", "waterBy", "[I", true)
  | 54 => ("SidePondsModel", "opened", "I", false)
  | 55 => ("SidePondsModel", "sought", "I", false)
  | 56 => ("SidePondsModel", "height", "I", false)
  | 57 => ("SidePondsModel", "drawnFrom", "I", false)
  | 58 => ("SidePondsModel", "drawnLeast", "I", false)
  | 59 => ("SidePondsModel", "flow", "[I", true)
  | 60 => ("SidePondsModel", "cameBy", "[I", true)
  | 61 => ("SidePondsModel", "notes", "I", false)
  | 62 => ("SidePondsModel", "knownBy", "I", false)
  | 63 => ("SidePondsModel", "noteMinutes", "[I", true)
  | 64 => ("SidePondsModel", "notePond", "[I", true)
  | 65 => ("SidePondsModel", "noteWater", "[I", true)
  | 66 => ("SidePondsModel", "noteLeast", "[Z", true)
  | 67 => ("SidePondsModel", "outs", "[I", true)
  | 68 => ("SidePondsModel", "isOut", "[Z", true)
  | _ => ("SidePondsModel", "levelBy", "[I", true)
def tyX11 : Nat → FieldType := fun k => match k with
  | 0 => .int
  | 1 => .array .int
  | 2 => .int
  | 3 => .array .int
  | 4 => .array .int
  | 5 => .array .int
  | 6 => .array .int
  | 7 => .array .int
  | 8 => .array .int
  | 9 => .array .int
  | 10 => .array .int
  | 11 => .array .int
  | 12 => .array .int
  | 13 => .array .int
  | 14 => .array .int
  | 15 => .array .int
  | 16 => .array .int
  | 17 => .array .int
  | 18 => .array .int
  | 19 => .array .int
  | 20 => .array .int
  | 21 => .array .int
  | 22 => .array .int
  | 23 => .array .int
  | 24 => .int
  | 25 => .int
  | 26 => .int
  | 27 => .int
  | 28 => .int
  | 29 => .int
  | 30 => .int
  | 31 => .int
  | 32 => .int
  | 33 => .int
  | 34 => .int
  | 35 => .int
  | 36 => .int
  | 37 => .array .long
  | 38 => .array .long
  | 39 => .int
  | 40 => .array .int
  | 41 => .array .int
  | 42 => .array .int
  | 43 => .array .int
  | 44 => .array .int
  | 45 => .array .int
  | 46 => .array .int
  | 47 => .boolean
  | 48 => .int
  | 49 => .int
  | 50 => .int
  | 51 => .int
  | 52 => .int
  | 53 => .array .int
  | 54 => .int
  | 55 => .int
  | 56 => .int
  | 57 => .int
  | 58 => .int
  | 59 => .array .int
  | 60 => .array .int
  | 61 => .int
  | 62 => .int
  | 63 => .array .int
  | 64 => .array .int
  | 65 => .array .int
  | 66 => .array .boolean
  | 67 => .array .int
  | 68 => .array .boolean
  | _ => .array .int
abbrev wsX110 : List Cond := u_ws RX11 TX11 70
theorem nmX11 : ∀ a, a < 70 → ∀ b, b < 70 → a ≠ b → (TX11 a).2.1 ≠ (TX11 b).2.1 := by decide +kernel
theorem tyX11_ok : ∀ k, k < 70 → parseFieldDescriptor (TX11 k).2.2.1 = some (tyX11 k) := by decide +kernel
abbrev cX11_init : ByteArray := prog_13_method_1_code
def yX11_init : MethodName := ⟨RX11, "<init>", "()V"⟩
abbrev cX11_thrown : ByteArray := prog_13_method_2_code
def yX11_thrown : MethodName := ⟨RX11, "thrown", "()I"⟩
abbrev cX11_feed : ByteArray := prog_13_method_3_code
def yX11_feed : MethodName := ⟨RX11, "feed", "(IIIII)I"⟩
abbrev cX11_here : ByteArray := prog_13_method_4_code
def yX11_here : MethodName := ⟨RX11, "here", "()I"⟩
abbrev cX11_isSmall : ByteArray := prog_13_method_5_code
def yX11_isSmall : MethodName := ⟨RX11, "isSmall", "(I)Z"⟩
abbrev cX11_isDigit : ByteArray := prog_13_method_6_code
def yX11_isDigit : MethodName := ⟨RX11, "isDigit", "(I)Z"⟩
abbrev cX11_token : ByteArray := prog_13_method_7_code
def yX11_token : MethodName := ⟨RX11, "token", "()V"⟩
abbrev cX11_sign : ByteArray := prog_13_method_8_code
def yX11_sign : MethodName := ⟨RX11, "sign", "(I)V"⟩
abbrev cX11_word : ByteArray := prog_13_method_9_code
def yX11_word : MethodName := ⟨RX11, "word", "()I"⟩
abbrev cX11_name : ByteArray := prog_13_method_10_code
def yX11_name : MethodName := ⟨RX11, "name", "()V"⟩
abbrev cX11_wrong : ByteArray := prog_13_method_11_code
def yX11_wrong : MethodName := ⟨RX11, "wrong", "(I)V"⟩
abbrev cX11_isWord : ByteArray := prog_13_method_12_code
def yX11_isWord : MethodName := ⟨RX11, "isWord", "(I)Z"⟩
abbrev cX11_isSign : ByteArray := prog_13_method_13_code
def yX11_isSign : MethodName := ⟨RX11, "isSign", "(I)Z"⟩
abbrev cX11_goOn : ByteArray := prog_13_method_14_code
def yX11_goOn : MethodName := ⟨RX11, "goOn", "()V"⟩
abbrev cX11_numeral : ByteArray := prog_13_method_15_code
def yX11_numeral : MethodName := ⟨RX11, "numeral", "(II)I"⟩
abbrev cX11_found : ByteArray := prog_13_method_16_code
def yX11_found : MethodName := ⟨RX11, "found", "([IIII)I"⟩
abbrev cX11_fresh : ByteArray := prog_13_method_17_code
def yX11_fresh : MethodName := ⟨RX11, "fresh", "([III)I"⟩
abbrev cX11_fresher : ByteArray := prog_13_method_18_code
def yX11_fresher : MethodName := ⟨RX11, "fresher", "(I)I"⟩
abbrev cX11_reads : ByteArray := prog_13_method_19_code
def yX11_reads : MethodName := ⟨RX11, "reads", "(II)V"⟩
abbrev cX11_pondAtHand : ByteArray := prog_13_method_20_code
def yX11_pondAtHand : MethodName := ⟨RX11, "pondAtHand", "()I"⟩
abbrev cX11_lockWith : ByteArray := prog_13_method_21_code
def yX11_lockWith : MethodName := ⟨RX11, "lockWith", "(I)I"⟩
abbrev cX11_isFull : ByteArray := prog_13_method_22_code
def yX11_isFull : MethodName := ⟨RX11, "isFull", "(I)Z"⟩
abbrev cX11_line : ByteArray := prog_13_method_23_code
def yX11_line : MethodName := ⟨RX11, "line", "()V"⟩
abbrev cX11_lockLine : ByteArray := prog_13_method_24_code
def yX11_lockLine : MethodName := ⟨RX11, "lockLine", "()V"⟩
abbrev cX11_pipeLine : ByteArray := prog_13_method_25_code
def yX11_pipeLine : MethodName := ⟨RX11, "pipeLine", "()V"⟩
abbrev cX11_turnLine : ByteArray := prog_13_method_26_code
def yX11_turnLine : MethodName := ⟨RX11, "turnLine", "()V"⟩
abbrev cX11_lawLine : ByteArray := prog_13_method_27_code
def yX11_lawLine : MethodName := ⟨RX11, "lawLine", "()V"⟩
abbrev cX11_puts : ByteArray := prog_13_method_28_code
def yX11_puts : MethodName := ⟨RX11, "puts", "(II)V"⟩
abbrev cX11_knot : ByteArray := prog_13_method_29_code
def yX11_knot : MethodName := ⟨RX11, "knot", "()V"⟩
abbrev cX11_expression : ByteArray := prog_13_method_30_code
def yX11_expression : MethodName := ⟨RX11, "expression", "()V"⟩
abbrev cX11_conjunction : ByteArray := prog_13_method_31_code
def yX11_conjunction : MethodName := ⟨RX11, "conjunction", "()V"⟩
abbrev cX11_negation : ByteArray := prog_13_method_32_code
def yX11_negation : MethodName := ⟨RX11, "negation", "()V"⟩
abbrev cX11_sum : ByteArray := prog_13_method_33_code
def yX11_sum : MethodName := ⟨RX11, "sum", "()V"⟩
abbrev cX11_product : ByteArray := prog_13_method_34_code
def yX11_product : MethodName := ⟨RX11, "product", "()V"⟩
abbrev cX11_primary : ByteArray := prog_13_method_35_code
def yX11_primary : MethodName := ⟨RX11, "primary", "()V"⟩
abbrev cX11_half : ByteArray := prog_13_method_36_code
def yX11_half : MethodName := ⟨RX11, "half", "([I)V"⟩
abbrev cX11_text : ByteArray := prog_13_method_37_code
def yX11_text : MethodName := ⟨RX11, "text", "(I)I"⟩
abbrev cX11_fault : ByteArray := prog_13_method_38_code
def yX11_fault : MethodName := ⟨RX11, "fault", "(I)I"⟩
abbrev cX11_named : ByteArray := prog_13_method_39_code
def yX11_named : MethodName := ⟨RX11, "named", "(I)I"⟩
abbrev cX11_is : ByteArray := prog_13_method_40_code
def yX11_is : MethodName := ⟨RX11, "is", "(Z)J"⟩
abbrev cX11_works : ByteArray := prog_13_method_41_code
def yX11_works : MethodName := ⟨RX11, "works", "(I)Z"⟩
abbrev cX11_goes : ByteArray := prog_13_method_42_code
def yX11_goes : MethodName := ⟨RX11, "goes", "(I)Z"⟩
abbrev cX11_hasLaw : ByteArray := prog_13_method_43_code
def yX11_hasLaw : MethodName := ⟨RX11, "hasLaw", "(I)Z"⟩
abbrev cX11_starts : ByteArray := prog_13_method_44_code
def yX11_starts : MethodName := ⟨RX11, "starts", "(I)V"⟩
abbrev cX11_begins : ByteArray := prog_13_method_45_code
def yX11_begins : MethodName := ⟨RX11, "begins", "()V"⟩
abbrev cX11_copies : ByteArray := prog_13_method_46_code
def yX11_copies : MethodName := ⟨RX11, "copies", "(II)V"⟩
abbrev cX11_isPond : ByteArray := prog_13_method_47_code
def yX11_isPond : MethodName := ⟨RX11, "isPond", "(I)Z"⟩
abbrev cX11_isPipe : ByteArray := prog_13_method_48_code
def yX11_isPipe : MethodName := ⟨RX11, "isPipe", "(I)Z"⟩
abbrev cX11_isLock : ByteArray := prog_13_method_49_code
def yX11_isLock : MethodName := ⟨RX11, "isLock", "(I)Z"⟩
abbrev cX11_isBoat : ByteArray := prog_13_method_50_code
def yX11_isBoat : MethodName := ⟨RX11, "isBoat", "(I)Z"⟩
abbrev cX11_bitsOf : ByteArray := prog_13_method_51_code
def yX11_bitsOf : MethodName := ⟨RX11, "bitsOf", "(I)I"⟩
abbrev cX11_fullOf : ByteArray := prog_13_method_52_code
def yX11_fullOf : MethodName := ⟨RX11, "fullOf", "(II)I"⟩
abbrev cX11_higherBy : ByteArray := prog_13_method_53_code
def yX11_higherBy : MethodName := ⟨RX11, "higherBy", "(III)I"⟩
abbrev cX11_isHigh : ByteArray := prog_13_method_54_code
def yX11_isHigh : MethodName := ⟨RX11, "isHigh", "(III)Z"⟩
abbrev cX11_sourceOf : ByteArray := prog_13_method_55_code
def yX11_sourceOf : MethodName := ⟨RX11, "sourceOf", "(II)I"⟩
abbrev cX11_sinkOf : ByteArray := prog_13_method_56_code
def yX11_sinkOf : MethodName := ⟨RX11, "sinkOf", "(II)I"⟩
abbrev cX11_runOf : ByteArray := prog_13_method_57_code
def yX11_runOf : MethodName := ⟨RX11, "runOf", "(II)I"⟩
abbrev cX11_flows : ByteArray := prog_13_method_58_code
def yX11_flows : MethodName := ⟨RX11, "flows", "(III)I"⟩
abbrev cX11_isJammed : ByteArray := prog_13_method_59_code
def yX11_isJammed : MethodName := ⟨RX11, "isJammed", "(II)Z"⟩
abbrev cX11_isTurned : ByteArray := prog_13_method_60_code
def yX11_isTurned : MethodName := ⟨RX11, "isTurned", "(II)Z"⟩
abbrev cX11_isOpen : ByteArray := prog_13_method_61_code
def yX11_isOpen : MethodName := ⟨RX11, "isOpen", "(II)Z"⟩
abbrev cX11_openMany : ByteArray := prog_13_method_62_code
def yX11_openMany : MethodName := ⟨RX11, "openMany", "(I)I"⟩
abbrev cX11_boatsOf : ByteArray := prog_13_method_63_code
def yX11_boatsOf : MethodName := ⟨RX11, "boatsOf", "(II)I"⟩
abbrev cX11_calls : ByteArray := prog_13_method_64_code
def yX11_calls : MethodName := ⟨RX11, "calls", "(III)V"⟩
abbrev cX11_within : ByteArray := prog_13_method_65_code
def yX11_within : MethodName := ⟨RX11, "within", "(III)I"⟩
abbrev cX11_doesJam : ByteArray := prog_13_method_66_code
def yX11_doesJam : MethodName := ⟨RX11, "doesJam", "(IZ)Z"⟩
abbrev cX11_opens : ByteArray := prog_13_method_67_code
def yX11_opens : MethodName := ⟨RX11, "opens", "(IIZ)V"⟩
abbrev cX11_more : ByteArray := prog_13_method_68_code
def yX11_more : MethodName := ⟨RX11, "more", "(II)I"⟩
abbrev cX11_loses : ByteArray := prog_13_method_69_code
def yX11_loses : MethodName := ⟨RX11, "loses", "(II)V"⟩
abbrev cX11_boatIn : ByteArray := prog_13_method_70_code
def yX11_boatIn : MethodName := ⟨RX11, "boatIn", "(II)I"⟩
abbrev cX11_moves : ByteArray := prog_13_method_71_code
def yX11_moves : MethodName := ⟨RX11, "moves", "(II)V"⟩
abbrev cX11_passes : ByteArray := prog_13_method_72_code
def yX11_passes : MethodName := ⟨RX11, "passes", "(IZ)V"⟩
abbrev cX11_goesOn : ByteArray := prog_13_method_73_code
def yX11_goesOn : MethodName := ⟨RX11, "goesOn", "(I)V"⟩
abbrev cX11_sumOf : ByteArray := prog_13_method_74_code
def yX11_sumOf : MethodName := ⟨RX11, "sumOf", "([III)I"⟩
abbrev cX11_common : ByteArray := prog_13_method_75_code
def yX11_common : MethodName := ⟨RX11, "common", "(II)I"⟩
abbrev cX11_part : ByteArray := prog_13_method_76_code
def yX11_part : MethodName := ⟨RX11, "part", "(III)I"⟩
abbrev cX11_isPart : ByteArray := prog_13_method_77_code
def yX11_isPart : MethodName := ⟨RX11, "isPart", "(I)Z"⟩
abbrev cX11_orNone : ByteArray := prog_13_method_78_code
def yX11_orNone : MethodName := ⟨RX11, "orNone", "(I)I"⟩
abbrev cX11_lockOf : ByteArray := prog_13_method_79_code
def yX11_lockOf : MethodName := ⟨RX11, "lockOf", "(I)I"⟩
abbrev cX11_pond : ByteArray := prog_13_method_80_code
def yX11_pond : MethodName := ⟨RX11, "pond", "(II)I"⟩
abbrev cX11_level : ByteArray := prog_13_method_81_code
def yX11_level : MethodName := ⟨RX11, "level", "(II)I"⟩
abbrev cX11_pipe : ByteArray := prog_13_method_82_code
def yX11_pipe : MethodName := ⟨RX11, "pipe", "(II)I"⟩
abbrev cX11_lock : ByteArray := prog_13_method_83_code
def yX11_lock : MethodName := ⟨RX11, "lock", "(II)I"⟩
abbrev cX11_boat : ByteArray := prog_13_method_84_code
def yX11_boat : MethodName := ⟨RX11, "boat", "(II)I"⟩
abbrev cX11_law : ByteArray := prog_13_method_85_code
def yX11_law : MethodName := ⟨RX11, "law", "(II)J"⟩
abbrev cX11_runs : ByteArray := prog_13_method_86_code
def yX11_runs : MethodName := ⟨RX11, "runs", "(II)I"⟩
abbrev cX11_keepNow : ByteArray := prog_13_method_87_code
def yX11_keepNow : MethodName := ⟨RX11, "keepNow", "()V"⟩
abbrev cX11_draw : ByteArray := prog_13_method_88_code
def yX11_draw : MethodName := ⟨RX11, "draw", "(II)I"⟩
abbrev cX11_fill : ByteArray := prog_13_method_89_code
def yX11_fill : MethodName := ⟨RX11, "fill", "(II)I"⟩
abbrev cX11_spill : ByteArray := prog_13_method_90_code
def yX11_spill : MethodName := ⟨RX11, "spill", "(II)I"⟩
abbrev cX11_mend : ByteArray := prog_13_method_91_code
def yX11_mend : MethodName := ⟨RX11, "mend", "(I)Z"⟩
abbrev cX11_go : ByteArray := prog_13_method_92_code
def yX11_go : MethodName := ⟨RX11, "go", "(I)I"⟩
abbrev cX11_ahead : ByteArray := prog_13_method_93_code
def yX11_ahead : MethodName := ⟨RX11, "ahead", "(III)I"⟩
abbrev cX11_upWhen : ByteArray := prog_13_method_94_code
def yX11_upWhen : MethodName := ⟨RX11, "upWhen", "(I)I"⟩
abbrev cX11_joinedBy : ByteArray := prog_13_method_95_code
def yX11_joinedBy : MethodName := ⟨RX11, "joinedBy", "(II)I"⟩
abbrev cX11_joined : ByteArray := prog_13_method_96_code
def yX11_joined : MethodName := ⟨RX11, "joined", "(II)I"⟩
abbrev cX11_isHeight : ByteArray := prog_13_method_97_code
def yX11_isHeight : MethodName := ⟨RX11, "isHeight", "(I)Z"⟩
abbrev cX11_overOf : ByteArray := prog_13_method_98_code
def yX11_overOf : MethodName := ⟨RX11, "overOf", "(II)I"⟩
abbrev cX11_needs : ByteArray := prog_13_method_99_code
def yX11_needs : MethodName := ⟨RX11, "needs", "(II)I"⟩
abbrev cX11_spareOf : ByteArray := prog_13_method_100_code
def yX11_spareOf : MethodName := ⟨RX11, "spareOf", "(II)I"⟩
abbrev cX11_spare : ByteArray := prog_13_method_101_code
def yX11_spare : MethodName := ⟨RX11, "spare", "(II)I"⟩
abbrev cX11_liftOf : ByteArray := prog_13_method_102_code
def yX11_liftOf : MethodName := ⟨RX11, "liftOf", "(I)I"⟩
abbrev cX11_lift : ByteArray := prog_13_method_103_code
def yX11_lift : MethodName := ⟨RX11, "lift", "(I)I"⟩
abbrev cX11_laysWater : ByteArray := prog_13_method_104_code
def yX11_laysWater : MethodName := ⟨RX11, "laysWater", "(I)V"⟩
abbrev cX11_takes : ByteArray := prog_13_method_105_code
def yX11_takes : MethodName := ⟨RX11, "takes", "(I)V"⟩
abbrev cX11_opensTo : ByteArray := prog_13_method_106_code
def yX11_opensTo : MethodName := ⟨RX11, "opensTo", "(II)Z"⟩
abbrev cX11_seeks : ByteArray := prog_13_method_107_code
def yX11_seeks : MethodName := ⟨RX11, "seeks", "(II)V"⟩
abbrev cX11_fewestBy : ByteArray := prog_13_method_108_code
def yX11_fewestBy : MethodName := ⟨RX11, "fewestBy", "(II)I"⟩
abbrev cX11_fewest : ByteArray := prog_13_method_109_code
def yX11_fewest : MethodName := ⟨RX11, "fewest", "(III)I"⟩
abbrev cX11_drawsBy : ByteArray := prog_13_method_110_code
def yX11_drawsBy : MethodName := ⟨RX11, "drawsBy", "(I)V"⟩
abbrev cX11_draws : ByteArray := prog_13_method_111_code
def yX11_draws : MethodName := ⟨RX11, "draws", "(III)I"⟩
abbrev cX11_highest : ByteArray := prog_13_method_112_code
def yX11_highest : MethodName := ⟨RX11, "highest", "(I)I"⟩
abbrev cX11_apart : ByteArray := prog_13_method_113_code
def yX11_apart : MethodName := ⟨RX11, "apart", "(III)I"⟩
abbrev cX11_runsAll : ByteArray := prog_13_method_114_code
def yX11_runsAll : MethodName := ⟨RX11, "runsAll", "()I"⟩
abbrev cX11_still : ByteArray := prog_13_method_115_code
def yX11_still : MethodName := ⟨RX11, "still", "(II)I"⟩
abbrev cX11_nextTo : ByteArray := prog_13_method_116_code
def yX11_nextTo : MethodName := ⟨RX11, "nextTo", "(I)I"⟩
abbrev cX11_reach : ByteArray := prog_13_method_117_code
def yX11_reach : MethodName := ⟨RX11, "reach", "(I)I"⟩
abbrev cX11_roomFrom : ByteArray := prog_13_method_118_code
def yX11_roomFrom : MethodName := ⟨RX11, "roomFrom", "(II)I"⟩
abbrev cX11_otherOf : ByteArray := prog_13_method_119_code
def yX11_otherOf : MethodName := ⟨RX11, "otherOf", "(II)I"⟩
abbrev cX11_findsOne : ByteArray := prog_13_method_120_code
def yX11_findsOne : MethodName := ⟨RX11, "findsOne", "(II)Z"⟩
abbrev cX11_sends : ByteArray := prog_13_method_121_code
def yX11_sends : MethodName := ⟨RX11, "sends", "(II)I"⟩
abbrev cX11_pass : ByteArray := prog_13_method_122_code
def yX11_pass : MethodName := ⟨RX11, "pass", "(II)I"⟩
abbrev cX11_lockfuls : ByteArray := prog_13_method_123_code
def yX11_lockfuls : MethodName := ⟨RX11, "lockfuls", "(II)I"⟩
abbrev cX11_game : ByteArray := prog_13_method_124_code
def yX11_game : MethodName := ⟨RX11, "game", "(III)I"⟩
abbrev cX11_hasOf : ByteArray := prog_13_method_125_code
def yX11_hasOf : MethodName := ⟨RX11, "hasOf", "(IIII)I"⟩
abbrev cX11_isRest : ByteArray := prog_13_method_126_code
def yX11_isRest : MethodName := ⟨RX11, "isRest", "(III)Z"⟩
abbrev cX11_restOf : ByteArray := prog_13_method_127_code
def yX11_restOf : MethodName := ⟨RX11, "restOf", "(III)I"⟩
abbrev cX11_areTwo : ByteArray := prog_13_method_128_code
def yX11_areTwo : MethodName := ⟨RX11, "areTwo", "(II)Z"⟩
abbrev cX11_rests : ByteArray := prog_13_method_129_code
def yX11_rests : MethodName := ⟨RX11, "rests", "(II)I"⟩
abbrev cX11_rest : ByteArray := prog_13_method_130_code
def yX11_rest : MethodName := ⟨RX11, "rest", "(III)I"⟩
abbrev cX11_holds : ByteArray := prog_13_method_131_code
def yX11_holds : MethodName := ⟨RX11, "holds", "(II)J"⟩
abbrev cX11_see : ByteArray := prog_13_method_132_code
def yX11_see : MethodName := ⟨RX11, "see", "(IIIZ)I"⟩
abbrev cX11_strike : ByteArray := prog_13_method_133_code
def yX11_strike : MethodName := ⟨RX11, "strike", "(I)I"⟩
abbrev cX11_known : ByteArray := prog_13_method_134_code
def yX11_known : MethodName := ⟨RX11, "known", "(I)Z"⟩
abbrev cX11_knownMany : ByteArray := prog_13_method_135_code
def yX11_knownMany : MethodName := ⟨RX11, "knownMany", "()I"⟩
abbrev cX11_isSo : ByteArray := prog_13_method_136_code
def yX11_isSo : MethodName := ⟨RX11, "isSo", "(I)Z"⟩
abbrev cX11_fitsLeak : ByteArray := prog_13_method_137_code
def yX11_fitsLeak : MethodName := ⟨RX11, "fitsLeak", "(I)Z"⟩
abbrev cX11_leaksOf : ByteArray := prog_13_method_138_code
def yX11_leaksOf : MethodName := ⟨RX11, "leaksOf", "(I)I"⟩
abbrev cX11_leaks : ByteArray := prog_13_method_139_code
def yX11_leaks : MethodName := ⟨RX11, "leaks", "(I)I"⟩
abbrev cX11_worstAt : ByteArray := prog_13_method_140_code
def yX11_worstAt : MethodName := ⟨RX11, "worstAt", "(II)I"⟩
abbrev cX11_ask : ByteArray := prog_13_method_141_code
def yX11_ask : MethodName := ⟨RX11, "ask", "(II)I"⟩
abbrev cX11_chance : ByteArray := prog_13_method_142_code
def yX11_chance : MethodName := ⟨RX11, "chance", "(III)I"⟩
abbrev cX11_tried : ByteArray := prog_13_method_143_code
def yX11_tried : MethodName := ⟨RX11, "tried", "(III)I"⟩
abbrev cX11_undo : ByteArray := prog_13_method_144_code
def yX11_undo : MethodName := ⟨RX11, "undo", "()I"⟩
abbrev cX11_keep : ByteArray := prog_13_method_145_code
def yX11_keep : MethodName := ⟨RX11, "keep", "()I"⟩
abbrev cX11_back : ByteArray := prog_13_method_146_code
def yX11_back : MethodName := ⟨RX11, "back", "()I"⟩
abbrev cX11_count : ByteArray := prog_13_method_147_code
def yX11_count : MethodName := ⟨RX11, "count", "(I)I"⟩
def RJx145de : String := "java/io/Serializable"
def TJx145de : u_T := fun k => match k with
  | _ => ("", "", "", false)
def tyJx145de : Nat → FieldType := fun k => match k with
  | _ => .int
abbrev wsJx145de0 : List Cond := u_ws RJx145de TJx145de 0
theorem nmJx145de : ∀ a, a < 0 → ∀ b, b < 0 → a ≠ b → (TJx145de a).2.1 ≠ (TJx145de b).2.1 := by decide +kernel
theorem tyJx145de_ok : ∀ k, k < 0 → parseFieldDescriptor (TJx145de k).2.2.1 = some (tyJx145de k) := by decide +kernel
def RJx9f9b0 : String := "java/lang/CharSequence"
def TJx9f9b0 : u_T := fun k => match k with
  | _ => ("", "", "", false)
def tyJx9f9b0 : Nat → FieldType := fun k => match k with
  | _ => .int
abbrev wsJx9f9b00 : List Cond := u_ws RJx9f9b0 TJx9f9b0 0
theorem nmJx9f9b0 : ∀ a, a < 0 → ∀ b, b < 0 → a ≠ b → (TJx9f9b0 a).2.1 ≠ (TJx9f9b0 b).2.1 := by decide +kernel
theorem tyJx9f9b0_ok : ∀ k, k < 0 → parseFieldDescriptor (TJx9f9b0 k).2.2.1 = some (tyJx9f9b0 k) := by decide +kernel
def RJ11 : String := "java/lang/Character"
def TJ11 : u_T := fun k => match k with
  | _ => ("", "", "", false)
def tyJ11 : Nat → FieldType := fun k => match k with
  | _ => .int
abbrev wsJ110 : List Cond := u_ws RJ11 TJ11 0
theorem nmJ11 : ∀ a, a < 0 → ∀ b, b < 0 → a ≠ b → (TJ11 a).2.1 ≠ (TJ11 b).2.1 := by decide +kernel
theorem tyJ11_ok : ∀ k, k < 0 → parseFieldDescriptor (TJ11 k).2.2.1 = some (tyJ11 k) := by decide +kernel
abbrev cJ11_isValidCodePoint_9a6ad : ByteArray := prog_16_method_11_code
def yJ11_isValidCodePoint_9a6ad : MethodName := ⟨RJ11, "isValidCodePoint", "(I)Z"⟩
abbrev cJ11_highSurrogate_5068e : ByteArray := prog_16_method_28_code
def yJ11_highSurrogate_5068e : MethodName := ⟨RJ11, "highSurrogate", "(I)C"⟩
abbrev cJ11_lowSurrogate_5068e : ByteArray := prog_16_method_29_code
def yJ11_lowSurrogate_5068e : MethodName := ⟨RJ11, "lowSurrogate", "(I)C"⟩
def RJxb160c : String := "java/lang/Comparable"
def TJxb160c : u_T := fun k => match k with
  | _ => ("", "", "", false)
def tyJxb160c : Nat → FieldType := fun k => match k with
  | _ => .int
abbrev wsJxb160c0 : List Cond := u_ws RJxb160c TJxb160c 0
theorem nmJxb160c : ∀ a, a < 0 → ∀ b, b < 0 → a ≠ b → (TJxb160c a).2.1 ≠ (TJxb160c b).2.1 := by decide +kernel
theorem tyJxb160c_ok : ∀ k, k < 0 → parseFieldDescriptor (TJxb160c k).2.2.1 = some (tyJxb160c k) := by decide +kernel
def RJ6 : String := "java/lang/Integer"
def TJ6 : u_T := fun k => match k with
  | _ => ("", "", "", false)
def tyJ6 : Nat → FieldType := fun k => match k with
  | _ => .int
abbrev wsJ60 : List Cond := u_ws RJ6 TJ6 0
theorem nmJ6 : ∀ a, a < 0 → ∀ b, b < 0 → a ≠ b → (TJ6 a).2.1 ≠ (TJ6 b).2.1 := by decide +kernel
theorem tyJ6_ok : ∀ k, k < 0 → parseFieldDescriptor (TJ6 k).2.2.1 = some (tyJ6 k) := by decide +kernel
abbrev cJ6_bitCount_0f7a4 : ByteArray := prog_20_method_49_code
def yJ6_bitCount_0f7a4 : MethodName := ⟨RJ6, "bitCount", "(I)I"⟩
def RJ9 : String := "java/lang/Math"
def TJ9 : u_T := fun k => match k with
  | _ => ("", "", "", false)
def tyJ9 : Nat → FieldType := fun k => match k with
  | _ => .int
abbrev wsJ90 : List Cond := u_ws RJ9 TJ9 0
theorem nmJ9 : ∀ a, a < 0 → ∀ b, b < 0 → a ≠ b → (TJ9 a).2.1 ≠ (TJ9 b).2.1 := by decide +kernel
theorem tyJ9_ok : ∀ k, k < 0 → parseFieldDescriptor (TJ9 k).2.2.1 = some (tyJ9 k) := by decide +kernel
abbrev cJ9_abs_0f7a4 : ByteArray := prog_21_method_59_code
def yJ9_abs_0f7a4 : MethodName := ⟨RJ9, "abs", "(I)I"⟩
abbrev cJ9_abs_067f4 : ByteArray := prog_21_method_61_code
def yJ9_abs_067f4 : MethodName := ⟨RJ9, "abs", "(J)J"⟩
abbrev cJ9_max_7cf53 : ByteArray := prog_21_method_65_code
def yJ9_max_7cf53 : MethodName := ⟨RJ9, "max", "(II)I"⟩
abbrev cJ9_max_f86c9 : ByteArray := prog_21_method_66_code
def yJ9_max_f86c9 : MethodName := ⟨RJ9, "max", "(JJ)J"⟩
abbrev cJ9_min_7cf53 : ByteArray := prog_21_method_69_code
def yJ9_min_7cf53 : MethodName := ⟨RJ9, "min", "(II)I"⟩
abbrev cJ9_min_f86c9 : ByteArray := prog_21_method_70_code
def yJ9_min_f86c9 : MethodName := ⟨RJ9, "min", "(JJ)J"⟩
def RJ0 : String := "java/lang/String"
def TJ0 : u_T := fun k => match k with
  | _ => ("", "", "", false)
def tyJ0 : Nat → FieldType := fun k => match k with
  | _ => .int
abbrev wsJ00 : List Cond := u_ws RJ0 TJ0 0
theorem nmJ0 : ∀ a, a < 0 → ∀ b, b < 0 → a ≠ b → (TJ0 a).2.1 ≠ (TJ0 b).2.1 := by decide +kernel
theorem tyJ0_ok : ∀ k, k < 0 → parseFieldDescriptor (TJ0 k).2.2.1 = some (tyJ0 k) := by decide +kernel
abbrev cJ0_length_8abf5 : ByteArray := prog_23_method_54_code
def yJ0_length_8abf5 : MethodName := ⟨RJ0, "length", "()I"⟩
abbrev cJ0_charAt_5068e : ByteArray := prog_23_method_56_code
def yJ0_charAt_5068e : MethodName := ⟨RJ0, "charAt", "(I)C"⟩
abbrev cJ0_indexOf_0f7a4 : ByteArray := prog_23_method_79_code
def yJ0_indexOf_0f7a4 : MethodName := ⟨RJ0, "indexOf", "(I)I"⟩
abbrev cJ0_indexOf_7cf53 : ByteArray := prog_23_method_80_code
def yJ0_indexOf_7cf53 : MethodName := ⟨RJ0, "indexOf", "(II)I"⟩
abbrev cJ0_coder_7d493 : ByteArray := prog_23_method_152_code
def yJ0_coder_7d493 : MethodName := ⟨RJ0, "coder", "()B"⟩
abbrev cJ0_isLatin1_aae02 : ByteArray := prog_23_method_154_code
def yJ0_isLatin1_aae02 : MethodName := ⟨RJ0, "isLatin1", "()Z"⟩
abbrev cJ0_checkIndex_df160 : ByteArray := prog_23_method_155_code
def yJ0_checkIndex_df160 : MethodName := ⟨RJ0, "checkIndex", "(II)V"⟩
abbrev cJ0_checkBoundsBeginEnd_23922 : ByteArray := prog_23_method_158_code
def yJ0_checkBoundsBeginEnd_23922 : MethodName := ⟨RJ0, "checkBoundsBeginEnd", "(III)V"⟩
def RJ1 : String := "java/lang/StringLatin1"
def TJ1 : u_T := fun k => match k with
  | _ => ("", "", "", false)
def tyJ1 : Nat → FieldType := fun k => match k with
  | _ => .int
abbrev wsJ10 : List Cond := u_ws RJ1 TJ1 0
theorem nmJ1 : ∀ a, a < 0 → ∀ b, b < 0 → a ≠ b → (TJ1 a).2.1 ≠ (TJ1 b).2.1 := by decide +kernel
theorem tyJ1_ok : ∀ k, k < 0 → parseFieldDescriptor (TJ1 k).2.2.1 = some (tyJ1 k) := by decide +kernel
abbrev cJ1_charAt_3b067 : ByteArray := prog_24_method_2_code
def yJ1_charAt_3b067 : MethodName := ⟨RJ1, "charAt", "([BI)C"⟩
abbrev cJ1_canEncode_9a6ad : ByteArray := prog_24_method_4_code
def yJ1_canEncode_9a6ad : MethodName := ⟨RJ1, "canEncode", "(I)Z"⟩
abbrev cJ1_indexOf_4cfef : ByteArray := prog_24_method_22_code
def yJ1_indexOf_4cfef : MethodName := ⟨RJ1, "indexOf", "([BIII)I"⟩
abbrev cJ1_indexOfChar_4cfef : ByteArray := prog_24_method_23_code
def yJ1_indexOfChar_4cfef : MethodName := ⟨RJ1, "indexOfChar", "([BIII)I"⟩
def RJ2 : String := "java/lang/StringUTF16"
def TJ2 : u_T := fun k => match k with
  | _ => ("", "", "", false)
def tyJ2 : Nat → FieldType := fun k => match k with
  | _ => .int
abbrev wsJ20 : List Cond := u_ws RJ2 TJ2 0
theorem nmJ2 : ∀ a, a < 0 → ∀ b, b < 0 → a ≠ b → (TJ2 a).2.1 ≠ (TJ2 b).2.1 := by decide +kernel
theorem tyJ2_ok : ∀ k, k < 0 → parseFieldDescriptor (TJ2 k).2.2.1 = some (tyJ2 k) := by decide +kernel
abbrev cJ2_getChar_3b067 : ByteArray := prog_25_method_5_code
def yJ2_getChar_3b067 : MethodName := ⟨RJ2, "getChar", "([BI)C"⟩
abbrev cJ2_length_9d52b : ByteArray := prog_25_method_6_code
def yJ2_length_9d52b : MethodName := ⟨RJ2, "length", "([B)I"⟩
abbrev cJ2_indexOf_4cfef : ByteArray := prog_25_method_40_code
def yJ2_indexOf_4cfef : MethodName := ⟨RJ2, "indexOf", "([BIII)I"⟩
abbrev cJ2_indexOfChar_4cfef : ByteArray := prog_25_method_47_code
def yJ2_indexOfChar_4cfef : MethodName := ⟨RJ2, "indexOfChar", "([BIII)I"⟩
abbrev cJ2_indexOfCharUnsafe_4cfef : ByteArray := prog_25_method_48_code
def yJ2_indexOfCharUnsafe_4cfef : MethodName := ⟨RJ2, "indexOfCharUnsafe", "([BIII)I"⟩
abbrev cJ2_indexOfSupplementary_4cfef : ByteArray := prog_25_method_49_code
def yJ2_indexOfSupplementary_4cfef : MethodName := ⟨RJ2, "indexOfSupplementary", "([BIII)I"⟩
abbrev cJ2_charAt_3b067 : ByteArray := prog_25_method_83_code
def yJ2_charAt_3b067 : MethodName := ⟨RJ2, "charAt", "([BI)C"⟩
abbrev cJ2_checkIndex_2214a : ByteArray := prog_25_method_91_code
def yJ2_checkIndex_2214a : MethodName := ⟨RJ2, "checkIndex", "(I[B)V"⟩
abbrev cJ2_checkBoundsBeginEnd_d044e : ByteArray := prog_25_method_93_code
def yJ2_checkBoundsBeginEnd_d044e : MethodName := ⟨RJ2, "checkBoundsBeginEnd", "(II[B)V"⟩
def RJxfd54e : String := "java/lang/constant/Constable"
def TJxfd54e : u_T := fun k => match k with
  | _ => ("", "", "", false)
def tyJxfd54e : Nat → FieldType := fun k => match k with
  | _ => .int
abbrev wsJxfd54e0 : List Cond := u_ws RJxfd54e TJxfd54e 0
theorem nmJxfd54e : ∀ a, a < 0 → ∀ b, b < 0 → a ≠ b → (TJxfd54e a).2.1 ≠ (TJxfd54e b).2.1 := by decide +kernel
theorem tyJxfd54e_ok : ∀ k, k < 0 → parseFieldDescriptor (TJxfd54e k).2.2.1 = some (tyJxfd54e k) := by decide +kernel
def RJx3cf43 : String := "java/lang/constant/ConstantDesc"
def TJx3cf43 : u_T := fun k => match k with
  | _ => ("", "", "", false)
def tyJx3cf43 : Nat → FieldType := fun k => match k with
  | _ => .int
abbrev wsJx3cf430 : List Cond := u_ws RJx3cf43 TJx3cf43 0
theorem nmJx3cf43 : ∀ a, a < 0 → ∀ b, b < 0 → a ≠ b → (TJx3cf43 a).2.1 ≠ (TJx3cf43 b).2.1 := by decide +kernel
theorem tyJx3cf43_ok : ∀ k, k < 0 → parseFieldDescriptor (TJx3cf43 k).2.2.1 = some (tyJx3cf43 k) := by decide +kernel
def RJ3 : String := "jdk/internal/util/Preconditions"
def TJ3 : u_T := fun k => match k with
  | _ => ("", "", "", false)
def tyJ3 : Nat → FieldType := fun k => match k with
  | _ => .int
abbrev wsJ30 : List Cond := u_ws RJ3 TJ3 0
theorem nmJ3 : ∀ a, a < 0 → ∀ b, b < 0 → a ≠ b → (TJ3 a).2.1 ≠ (TJ3 b).2.1 := by decide +kernel
theorem tyJ3_ok : ∀ k, k < 0 → parseFieldDescriptor (TJ3 k).2.2.1 = some (tyJ3 k) := by decide +kernel
abbrev cJ3_checkIndex_8e157 : ByteArray := prog_30_method_11_code
def yJ3_checkIndex_8e157 : MethodName := ⟨RJ3, "checkIndex", "(IILjava/util/function/BiFunction;)I"⟩
abbrev cJ3_checkFromToIndex_8c36e : ByteArray := prog_30_method_12_code
def yJ3_checkFromToIndex_8c36e : MethodName := ⟨RJ3, "checkFromToIndex", "(IIILjava/util/function/BiFunction;)I"⟩
def RL : String := "SidePondsLaw"
abbrev cL_pond : ByteArray := method_3_code
def yL_pond : MethodName := ⟨RL, "pond", "(LSidePonds;II[J)I"⟩
abbrev cL_law : ByteArray := code
def yL_law : MethodName := ⟨RL, "law", "([I)Z"⟩
