section
-- ===== PART A: goes FIRST, ahead of the names: the tables' words, and 'selects' of the private methods out of them =====
/-- a private method of a class that the tables say can be made, by its rows of tables_1 -/
def lw_okq (q : MethodName × Nat) : Prop := (q.1.cls ≠ "java/lang/invoke/MethodHandle" ∧ q.1.cls ≠ "java/lang/invoke/VarHandle") ∧ Cond.instantiable q.1.cls q.2 ∈ tables_1 ∧ Cond.privateMethod q.1 ∈ tables_1 ∧ Cond.instanceMethod q.1 ∈ tables_1
theorem lw_p0 : lw_okq (⟨"EvenFerry$Tape", "signAt", "(I)C"⟩, 5) := ⟨⟨by decide +kernel, by decide +kernel⟩, List.mem_of_getElem? (i := 164) (by decide +kernel), List.mem_of_getElem? (i := 477) (by decide +kernel), List.mem_of_getElem? (i := 478) (by decide +kernel)⟩
theorem lw_p1 : lw_okq (⟨"EvenFerry$Tape", "endOfWord", "(I)I"⟩, 5) := ⟨⟨by decide +kernel, by decide +kernel⟩, List.mem_of_getElem? (i := 164) (by decide +kernel), List.mem_of_getElem? (i := 484) (by decide +kernel), List.mem_of_getElem? (i := 485) (by decide +kernel)⟩
theorem lw_p2 : lw_okq (⟨"EvenFerry$Tape", "wordKind", "(II)I"⟩, 5) := ⟨⟨by decide +kernel, by decide +kernel⟩, List.mem_of_getElem? (i := 164) (by decide +kernel), List.mem_of_getElem? (i := 488) (by decide +kernel), List.mem_of_getElem? (i := 489) (by decide +kernel)⟩
theorem lw_p3 : lw_okq (⟨"EvenFerry$Tape", "isWord", "(III)Z"⟩, 5) := ⟨⟨by decide +kernel, by decide +kernel⟩, List.mem_of_getElem? (i := 164) (by decide +kernel), List.mem_of_getElem? (i := 503) (by decide +kernel), List.mem_of_getElem? (i := 504) (by decide +kernel)⟩
theorem lw_p4 : lw_okq (⟨"EvenFerry$Tape", "add", "(II)V"⟩, 5) := ⟨⟨by decide +kernel, by decide +kernel⟩, List.mem_of_getElem? (i := 164) (by decide +kernel), List.mem_of_getElem? (i := 545) (by decide +kernel), List.mem_of_getElem? (i := 546) (by decide +kernel)⟩
theorem lw_p5 : lw_okq (⟨"EvenFerry$Tape", "endOfNumber", "(I)I"⟩, 5) := ⟨⟨by decide +kernel, by decide +kernel⟩, List.mem_of_getElem? (i := 164) (by decide +kernel), List.mem_of_getElem? (i := 555) (by decide +kernel), List.mem_of_getElem? (i := 556) (by decide +kernel)⟩
theorem lw_p6 : lw_okq (⟨"EvenFerry$Parser", "kind", "()I"⟩, 8) := ⟨⟨by decide +kernel, by decide +kernel⟩, List.mem_of_getElem? (i := 191) (by decide +kernel), List.mem_of_getElem? (i := 622) (by decide +kernel), List.mem_of_getElem? (i := 623) (by decide +kernel)⟩
theorem lw_p7 : lw_okq (⟨"EvenFerry$Parser", "line", "()V"⟩, 8) := ⟨⟨by decide +kernel, by decide +kernel⟩, List.mem_of_getElem? (i := 191) (by decide +kernel), List.mem_of_getElem? (i := 626) (by decide +kernel), List.mem_of_getElem? (i := 627) (by decide +kernel)⟩
theorem lw_p8 : lw_okq (⟨"EvenFerry$Parser", "lineToldOnce", "(I)V"⟩, 8) := ⟨⟨by decide +kernel, by decide +kernel⟩, List.mem_of_getElem? (i := 191) (by decide +kernel), List.mem_of_getElem? (i := 630) (by decide +kernel), List.mem_of_getElem? (i := 631) (by decide +kernel)⟩
theorem lw_p9 : lw_okq (⟨"EvenFerry$Parser", "wrong", "(I)V"⟩, 8) := ⟨⟨by decide +kernel, by decide +kernel⟩, List.mem_of_getElem? (i := 191) (by decide +kernel), List.mem_of_getElem? (i := 634) (by decide +kernel), List.mem_of_getElem? (i := 635) (by decide +kernel)⟩
theorem lw_p10 : lw_okq (⟨"EvenFerry$Parser", "step", "()V"⟩, 8) := ⟨⟨by decide +kernel, by decide +kernel⟩, List.mem_of_getElem? (i := 191) (by decide +kernel), List.mem_of_getElem? (i := 638) (by decide +kernel), List.mem_of_getElem? (i := 639) (by decide +kernel)⟩
theorem lw_p11 : lw_okq (⟨"EvenFerry$Parser", "number", "(II)I"⟩, 8) := ⟨⟨by decide +kernel, by decide +kernel⟩, List.mem_of_getElem? (i := 191) (by decide +kernel), List.mem_of_getElem? (i := 642) (by decide +kernel), List.mem_of_getElem? (i := 643) (by decide +kernel)⟩
theorem lw_p12 : lw_okq (⟨"EvenFerry$Parser", "expect", "(I)V"⟩, 8) := ⟨⟨by decide +kernel, by decide +kernel⟩, List.mem_of_getElem? (i := 191) (by decide +kernel), List.mem_of_getElem? (i := 653) (by decide +kernel), List.mem_of_getElem? (i := 654) (by decide +kernel)⟩
theorem lw_p13 : lw_okq (⟨"EvenFerry$Parser", "lawLine", "()V"⟩, 8) := ⟨⟨by decide +kernel, by decide +kernel⟩, List.mem_of_getElem? (i := 191) (by decide +kernel), List.mem_of_getElem? (i := 657) (by decide +kernel), List.mem_of_getElem? (i := 658) (by decide +kernel)⟩
theorem lw_p14 : lw_okq (⟨"EvenFerry$Parser", "chain", "(II)V"⟩, 8) := ⟨⟨by decide +kernel, by decide +kernel⟩, List.mem_of_getElem? (i := 191) (by decide +kernel), List.mem_of_getElem? (i := 661) (by decide +kernel), List.mem_of_getElem? (i := 662) (by decide +kernel)⟩
theorem lw_p15 : lw_okq (⟨"EvenFerry$Parser", "part", "(I)V"⟩, 8) := ⟨⟨by decide +kernel, by decide +kernel⟩, List.mem_of_getElem? (i := 191) (by decide +kernel), List.mem_of_getElem? (i := 665) (by decide +kernel), List.mem_of_getElem? (i := 666) (by decide +kernel)⟩
def lw_privs_1 : List (MethodName × Nat) := [(⟨"EvenFerry$Tape", "signAt", "(I)C"⟩, 5), (⟨"EvenFerry$Tape", "endOfWord", "(I)I"⟩, 5), (⟨"EvenFerry$Tape", "wordKind", "(II)I"⟩, 5), (⟨"EvenFerry$Tape", "isWord", "(III)Z"⟩, 5), (⟨"EvenFerry$Tape", "add", "(II)V"⟩, 5), (⟨"EvenFerry$Tape", "endOfNumber", "(I)I"⟩, 5), (⟨"EvenFerry$Parser", "kind", "()I"⟩, 8), (⟨"EvenFerry$Parser", "line", "()V"⟩, 8), (⟨"EvenFerry$Parser", "lineToldOnce", "(I)V"⟩, 8), (⟨"EvenFerry$Parser", "wrong", "(I)V"⟩, 8), (⟨"EvenFerry$Parser", "step", "()V"⟩, 8), (⟨"EvenFerry$Parser", "number", "(II)I"⟩, 8), (⟨"EvenFerry$Parser", "expect", "(I)V"⟩, 8), (⟨"EvenFerry$Parser", "lawLine", "()V"⟩, 8), (⟨"EvenFerry$Parser", "chain", "(II)V"⟩, 8), (⟨"EvenFerry$Parser", "part", "(I)V"⟩, 8)]
theorem lw_r1 : ∀ q ∈ lw_privs_1, lw_okq q := List.forall_mem_cons.mpr ⟨lw_p0, List.forall_mem_cons.mpr ⟨lw_p1, List.forall_mem_cons.mpr ⟨lw_p2, List.forall_mem_cons.mpr ⟨lw_p3, List.forall_mem_cons.mpr ⟨lw_p4, List.forall_mem_cons.mpr ⟨lw_p5, List.forall_mem_cons.mpr ⟨lw_p6, List.forall_mem_cons.mpr ⟨lw_p7, List.forall_mem_cons.mpr ⟨lw_p8, List.forall_mem_cons.mpr ⟨lw_p9, List.forall_mem_cons.mpr ⟨lw_p10, List.forall_mem_cons.mpr ⟨lw_p11, List.forall_mem_cons.mpr ⟨lw_p12, List.forall_mem_cons.mpr ⟨lw_p13, List.forall_mem_cons.mpr ⟨lw_p14, List.forall_mem_cons.mpr ⟨lw_p15, fun _ h => absurd h List.not_mem_nil⟩⟩⟩⟩⟩⟩⟩⟩⟩⟩⟩⟩⟩⟩⟩⟩
theorem lw_p16 : lw_okq (⟨"EvenFerry$Parser", "write", "(I)V"⟩, 8) := ⟨⟨by decide +kernel, by decide +kernel⟩, List.mem_of_getElem? (i := 191) (by decide +kernel), List.mem_of_getElem? (i := 669) (by decide +kernel), List.mem_of_getElem? (i := 670) (by decide +kernel)⟩
theorem lw_p17 : lw_okq (⟨"EvenFerry$Parser", "personLine", "()V"⟩, 8) := ⟨⟨by decide +kernel, by decide +kernel⟩, List.mem_of_getElem? (i := 191) (by decide +kernel), List.mem_of_getElem? (i := 682) (by decide +kernel), List.mem_of_getElem? (i := 683) (by decide +kernel)⟩
theorem lw_p18 : lw_okq (⟨"EvenFerry$Parser", "name", "()V"⟩, 8) := ⟨⟨by decide +kernel, by decide +kernel⟩, List.mem_of_getElem? (i := 191) (by decide +kernel), List.mem_of_getElem? (i := 686) (by decide +kernel), List.mem_of_getElem? (i := 687) (by decide +kernel)⟩
theorem lw_p19 : lw_okq (⟨"EvenFerry$Parser", "sideWord", "()I"⟩, 8) := ⟨⟨by decide +kernel, by decide +kernel⟩, List.mem_of_getElem? (i := 191) (by decide +kernel), List.mem_of_getElem? (i := 695) (by decide +kernel), List.mem_of_getElem? (i := 696) (by decide +kernel)⟩
theorem lw_p20 : lw_okq (⟨"EvenFerry$Parser", "kindWord", "()I"⟩, 8) := ⟨⟨by decide +kernel, by decide +kernel⟩, List.mem_of_getElem? (i := 191) (by decide +kernel), List.mem_of_getElem? (i := 699) (by decide +kernel), List.mem_of_getElem? (i := 700) (by decide +kernel)⟩
theorem lw_p21 : lw_okq (⟨"EvenFerry", "forget", "()V"⟩, 9) := ⟨⟨by decide +kernel, by decide +kernel⟩, List.mem_of_getElem? (i := 25) (by decide +kernel), List.mem_of_getElem? (i := 736) (by decide +kernel), List.mem_of_getElem? (i := 737) (by decide +kernel)⟩
theorem lw_p22 : lw_okq (⟨"EvenFerry", "isPerson", "(I)Z"⟩, 9) := ⟨⟨by decide +kernel, by decide +kernel⟩, List.mem_of_getElem? (i := 25) (by decide +kernel), List.mem_of_getElem? (i := 745) (by decide +kernel), List.mem_of_getElem? (i := 746) (by decide +kernel)⟩
theorem lw_p23 : lw_okq (⟨"EvenFerry", "knowDay", "()V"⟩, 9) := ⟨⟨by decide +kernel, by decide +kernel⟩, List.mem_of_getElem? (i := 25) (by decide +kernel), List.mem_of_getElem? (i := 758) (by decide +kernel), List.mem_of_getElem? (i := 759) (by decide +kernel)⟩
theorem lw_p24 : lw_okq (⟨"EvenFerry$Day", "bankOf", "(I)LEvenFerry$Bank;"⟩, 18) := ⟨⟨by decide +kernel, by decide +kernel⟩, List.mem_of_getElem? (i := 255) (by decide +kernel), List.mem_of_getElem? (i := 794) (by decide +kernel), List.mem_of_getElem? (i := 795) (by decide +kernel)⟩
theorem lw_p25 : lw_okq (⟨"EvenFerry$Day", "freeBoat", "(I)I"⟩, 18) := ⟨⟨by decide +kernel, by decide +kernel⟩, List.mem_of_getElem? (i := 255) (by decide +kernel), List.mem_of_getElem? (i := 810) (by decide +kernel), List.mem_of_getElem? (i := 811) (by decide +kernel)⟩
theorem lw_p26 : lw_okq (⟨"EvenFerry$Day", "gatherFacts", "(I)V"⟩, 18) := ⟨⟨by decide +kernel, by decide +kernel⟩, List.mem_of_getElem? (i := 255) (by decide +kernel), List.mem_of_getElem? (i := 814) (by decide +kernel), List.mem_of_getElem? (i := 815) (by decide +kernel)⟩
theorem lw_p27 : lw_okq (⟨"EvenFerry$Day", "earliest", "(LEvenFerry$Bank;I)I"⟩, 18) := ⟨⟨by decide +kernel, by decide +kernel⟩, List.mem_of_getElem? (i := 255) (by decide +kernel), List.mem_of_getElem? (i := 826) (by decide +kernel), List.mem_of_getElem? (i := 827) (by decide +kernel)⟩
theorem lw_p28 : lw_okq (⟨"EvenFerry$Day", "board", "(LEvenFerry$Bank;I)I"⟩, 18) := ⟨⟨by decide +kernel, by decide +kernel⟩, List.mem_of_getElem? (i := 255) (by decide +kernel), List.mem_of_getElem? (i := 845) (by decide +kernel), List.mem_of_getElem? (i := 846) (by decide +kernel)⟩
theorem lw_p29 : lw_okq (⟨"EvenFerry$Day", "firstHolding", "(II)I"⟩, 18) := ⟨⟨by decide +kernel, by decide +kernel⟩, List.mem_of_getElem? (i := 255) (by decide +kernel), List.mem_of_getElem? (i := 858) (by decide +kernel), List.mem_of_getElem? (i := 859) (by decide +kernel)⟩
theorem lw_p30 : lw_okq (⟨"EvenFerry", "nightBits", "()I"⟩, 9) := ⟨⟨by decide +kernel, by decide +kernel⟩, List.mem_of_getElem? (i := 25) (by decide +kernel), List.mem_of_getElem? (i := 891) (by decide +kernel), List.mem_of_getElem? (i := 892) (by decide +kernel)⟩
theorem lw_p31 : lw_okq (⟨"EvenFerry", "heads", "(II)I"⟩, 9) := ⟨⟨by decide +kernel, by decide +kernel⟩, List.mem_of_getElem? (i := 25) (by decide +kernel), List.mem_of_getElem? (i := 902) (by decide +kernel), List.mem_of_getElem? (i := 903) (by decide +kernel)⟩
def lw_privs_2 : List (MethodName × Nat) := [(⟨"EvenFerry$Parser", "write", "(I)V"⟩, 8), (⟨"EvenFerry$Parser", "personLine", "()V"⟩, 8), (⟨"EvenFerry$Parser", "name", "()V"⟩, 8), (⟨"EvenFerry$Parser", "sideWord", "()I"⟩, 8), (⟨"EvenFerry$Parser", "kindWord", "()I"⟩, 8), (⟨"EvenFerry", "forget", "()V"⟩, 9), (⟨"EvenFerry", "isPerson", "(I)Z"⟩, 9), (⟨"EvenFerry", "knowDay", "()V"⟩, 9), (⟨"EvenFerry$Day", "bankOf", "(I)LEvenFerry$Bank;"⟩, 18), (⟨"EvenFerry$Day", "freeBoat", "(I)I"⟩, 18), (⟨"EvenFerry$Day", "gatherFacts", "(I)V"⟩, 18), (⟨"EvenFerry$Day", "earliest", "(LEvenFerry$Bank;I)I"⟩, 18), (⟨"EvenFerry$Day", "board", "(LEvenFerry$Bank;I)I"⟩, 18), (⟨"EvenFerry$Day", "firstHolding", "(II)I"⟩, 18), (⟨"EvenFerry", "nightBits", "()I"⟩, 9), (⟨"EvenFerry", "heads", "(II)I"⟩, 9)]
theorem lw_r2 : ∀ q ∈ lw_privs_2, lw_okq q := List.forall_mem_cons.mpr ⟨lw_p16, List.forall_mem_cons.mpr ⟨lw_p17, List.forall_mem_cons.mpr ⟨lw_p18, List.forall_mem_cons.mpr ⟨lw_p19, List.forall_mem_cons.mpr ⟨lw_p20, List.forall_mem_cons.mpr ⟨lw_p21, List.forall_mem_cons.mpr ⟨lw_p22, List.forall_mem_cons.mpr ⟨lw_p23, List.forall_mem_cons.mpr ⟨lw_p24, List.forall_mem_cons.mpr ⟨lw_p25, List.forall_mem_cons.mpr ⟨lw_p26, List.forall_mem_cons.mpr ⟨lw_p27, List.forall_mem_cons.mpr ⟨lw_p28, List.forall_mem_cons.mpr ⟨lw_p29, List.forall_mem_cons.mpr ⟨lw_p30, List.forall_mem_cons.mpr ⟨lw_p31, fun _ h => absurd h List.not_mem_nil⟩⟩⟩⟩⟩⟩⟩⟩⟩⟩⟩⟩⟩⟩⟩⟩
theorem lw_p32 : lw_okq (⟨"EvenFerry", "waitsAt", "(III)Z"⟩, 9) := ⟨⟨by decide +kernel, by decide +kernel⟩, List.mem_of_getElem? (i := 25) (by decide +kernel), List.mem_of_getElem? (i := 906) (by decide +kernel), List.mem_of_getElem? (i := 907) (by decide +kernel)⟩
theorem lw_p33 : lw_okq (⟨"EvenFerry", "together", "([III)I"⟩, 9) := ⟨⟨by decide +kernel, by decide +kernel⟩, List.mem_of_getElem? (i := 25) (by decide +kernel), List.mem_of_getElem? (i := 914) (by decide +kernel), List.mem_of_getElem? (i := 915) (by decide +kernel)⟩
theorem lw_p34 : lw_okq (⟨"EvenFerry", "beginTrial", "(I)V"⟩, 9) := ⟨⟨by decide +kernel, by decide +kernel⟩, List.mem_of_getElem? (i := 25) (by decide +kernel), List.mem_of_getElem? (i := 922) (by decide +kernel), List.mem_of_getElem? (i := 923) (by decide +kernel)⟩
theorem lw_p35 : lw_okq (⟨"EvenFerry", "mayTurn", "(II)Z"⟩, 9) := ⟨⟨by decide +kernel, by decide +kernel⟩, List.mem_of_getElem? (i := 25) (by decide +kernel), List.mem_of_getElem? (i := 936) (by decide +kernel), List.mem_of_getElem? (i := 937) (by decide +kernel)⟩
theorem lw_p36 : lw_okq (⟨"EvenFerry", "gainByTurning", "(II)I"⟩, 9) := ⟨⟨by decide +kernel, by decide +kernel⟩, List.mem_of_getElem? (i := 25) (by decide +kernel), List.mem_of_getElem? (i := 940) (by decide +kernel), List.mem_of_getElem? (i := 941) (by decide +kernel)⟩
theorem lw_p37 : lw_okq (⟨"EvenFerry$Choices", "findCheapest", "(I)V"⟩, 7) := ⟨⟨by decide +kernel, by decide +kernel⟩, List.mem_of_getElem? (i := 354) (by decide +kernel), List.mem_of_getElem? (i := 967) (by decide +kernel), List.mem_of_getElem? (i := 968) (by decide +kernel)⟩
theorem lw_p38 : lw_okq (⟨"EvenFerry$Choices", "findResting", "(II)V"⟩, 7) := ⟨⟨by decide +kernel, by decide +kernel⟩, List.mem_of_getElem? (i := 354) (by decide +kernel), List.mem_of_getElem? (i := 971) (by decide +kernel), List.mem_of_getElem? (i := 972) (by decide +kernel)⟩
theorem lw_p39 : lw_okq (⟨"EvenFerry$Choices", "isAtRest", "(II)Z"⟩, 7) := ⟨⟨by decide +kernel, by decide +kernel⟩, List.mem_of_getElem? (i := 354) (by decide +kernel), List.mem_of_getElem? (i := 975) (by decide +kernel), List.mem_of_getElem? (i := 976) (by decide +kernel)⟩
theorem lw_p40 : lw_okq (⟨"EvenFerry", "levels", "(IZ)J"⟩, 9) := ⟨⟨by decide +kernel, by decide +kernel⟩, List.mem_of_getElem? (i := 25) (by decide +kernel), List.mem_of_getElem? (i := 1024) (by decide +kernel), List.mem_of_getElem? (i := 1025) (by decide +kernel)⟩
theorem lw_p41 : lw_okq (⟨"EvenFerry$Lots", "drawCrowd", "(LEvenFerry$River;)V"⟩, 10) := ⟨⟨by decide +kernel, by decide +kernel⟩, List.mem_of_getElem? (i := 388) (by decide +kernel), List.mem_of_getElem? (i := 1058) (by decide +kernel), List.mem_of_getElem? (i := 1059) (by decide +kernel)⟩
theorem lw_p42 : lw_okq (⟨"EvenFerry$Lots", "draw", "(I)I"⟩, 10) := ⟨⟨by decide +kernel, by decide +kernel⟩, List.mem_of_getElem? (i := 388) (by decide +kernel), List.mem_of_getElem? (i := 1062) (by decide +kernel), List.mem_of_getElem? (i := 1063) (by decide +kernel)⟩
theorem lw_p43 : lw_okq (⟨"EvenFerry$Lots", "addUp", "(LEvenFerry$Day;)V"⟩, 10) := ⟨⟨by decide +kernel, by decide +kernel⟩, List.mem_of_getElem? (i := 388) (by decide +kernel), List.mem_of_getElem? (i := 1073) (by decide +kernel), List.mem_of_getElem? (i := 1074) (by decide +kernel)⟩
theorem lw_p44 : lw_okq (⟨"java/lang/Throwable", "fillInStackTrace", "(I)Ljava/lang/Throwable;"⟩, 6) := ⟨⟨by decide +kernel, by decide +kernel⟩, List.mem_of_getElem? (i := 1140) (by decide +kernel), List.mem_of_getElem? (i := 1138) (by decide +kernel), List.mem_of_getElem? (i := 1139) (by decide +kernel)⟩
theorem lw_p45 : lw_okq (⟨"EvenFerryModel", "starts0", "(I)V"⟩, 55) := ⟨⟨by decide +kernel, by decide +kernel⟩, List.mem_of_getElem? (i := 1169) (by decide +kernel), List.mem_of_getElem? (i := 1175) (by decide +kernel), List.mem_of_getElem? (i := 1176) (by decide +kernel)⟩
theorem lw_p46 : lw_okq (⟨"EvenFerryModel", "readsAll", "()Z"⟩, 55) := ⟨⟨by decide +kernel, by decide +kernel⟩, List.mem_of_getElem? (i := 1169) (by decide +kernel), List.mem_of_getElem? (i := 1359) (by decide +kernel), List.mem_of_getElem? (i := 1360) (by decide +kernel)⟩
theorem lw_p47 : lw_okq (⟨"EvenFerryModel", "nextToken", "()V"⟩, 55) := ⟨⟨by decide +kernel, by decide +kernel⟩, List.mem_of_getElem? (i := 1169) (by decide +kernel), List.mem_of_getElem? (i := 1363) (by decide +kernel), List.mem_of_getElem? (i := 1364) (by decide +kernel)⟩
def lw_privs_3 : List (MethodName × Nat) := [(⟨"EvenFerry", "waitsAt", "(III)Z"⟩, 9), (⟨"EvenFerry", "together", "([III)I"⟩, 9), (⟨"EvenFerry", "beginTrial", "(I)V"⟩, 9), (⟨"EvenFerry", "mayTurn", "(II)Z"⟩, 9), (⟨"EvenFerry", "gainByTurning", "(II)I"⟩, 9), (⟨"EvenFerry$Choices", "findCheapest", "(I)V"⟩, 7), (⟨"EvenFerry$Choices", "findResting", "(II)V"⟩, 7), (⟨"EvenFerry$Choices", "isAtRest", "(II)Z"⟩, 7), (⟨"EvenFerry", "levels", "(IZ)J"⟩, 9), (⟨"EvenFerry$Lots", "drawCrowd", "(LEvenFerry$River;)V"⟩, 10), (⟨"EvenFerry$Lots", "draw", "(I)I"⟩, 10), (⟨"EvenFerry$Lots", "addUp", "(LEvenFerry$Day;)V"⟩, 10), (⟨"java/lang/Throwable", "fillInStackTrace", "(I)Ljava/lang/Throwable;"⟩, 6), (⟨"EvenFerryModel", "starts0", "(I)V"⟩, 55), (⟨"EvenFerryModel", "readsAll", "()Z"⟩, 55), (⟨"EvenFerryModel", "nextToken", "()V"⟩, 55)]
theorem lw_r3 : ∀ q ∈ lw_privs_3, lw_okq q := List.forall_mem_cons.mpr ⟨lw_p32, List.forall_mem_cons.mpr ⟨lw_p33, List.forall_mem_cons.mpr ⟨lw_p34, List.forall_mem_cons.mpr ⟨lw_p35, List.forall_mem_cons.mpr ⟨lw_p36, List.forall_mem_cons.mpr ⟨lw_p37, List.forall_mem_cons.mpr ⟨lw_p38, List.forall_mem_cons.mpr ⟨lw_p39, List.forall_mem_cons.mpr ⟨lw_p40, List.forall_mem_cons.mpr ⟨lw_p41, List.forall_mem_cons.mpr ⟨lw_p42, List.forall_mem_cons.mpr ⟨lw_p43, List.forall_mem_cons.mpr ⟨lw_p44, List.forall_mem_cons.mpr ⟨lw_p45, List.forall_mem_cons.mpr ⟨lw_p46, List.forall_mem_cons.mpr ⟨lw_p47, fun _ h => absurd h List.not_mem_nil⟩⟩⟩⟩⟩⟩⟩⟩⟩⟩⟩⟩⟩⟩⟩⟩
theorem lw_p48 : lw_okq (⟨"EvenFerryModel", "signAt", "(I)I"⟩, 55) := ⟨⟨by decide +kernel, by decide +kernel⟩, List.mem_of_getElem? (i := 1169) (by decide +kernel), List.mem_of_getElem? (i := 1367) (by decide +kernel), List.mem_of_getElem? (i := 1368) (by decide +kernel)⟩
theorem lw_p49 : lw_okq (⟨"EvenFerryModel", "isWord", "(J)Z"⟩, 55) := ⟨⟨by decide +kernel, by decide +kernel⟩, List.mem_of_getElem? (i := 1169) (by decide +kernel), List.mem_of_getElem? (i := 1374) (by decide +kernel), List.mem_of_getElem? (i := 1375) (by decide +kernel)⟩
theorem lw_p50 : lw_okq (⟨"EvenFerryModel", "readsOne", "(III)Z"⟩, 55) := ⟨⟨by decide +kernel, by decide +kernel⟩, List.mem_of_getElem? (i := 1169) (by decide +kernel), List.mem_of_getElem? (i := 1378) (by decide +kernel), List.mem_of_getElem? (i := 1379) (by decide +kernel)⟩
theorem lw_p51 : lw_okq (⟨"EvenFerryModel", "fails", "(I)Z"⟩, 55) := ⟨⟨by decide +kernel, by decide +kernel⟩, List.mem_of_getElem? (i := 1169) (by decide +kernel), List.mem_of_getElem? (i := 1382) (by decide +kernel), List.mem_of_getElem? (i := 1383) (by decide +kernel)⟩
theorem lw_p52 : lw_okq (⟨"EvenFerryModel", "needsNumber", "(II)Z"⟩, 55) := ⟨⟨by decide +kernel, by decide +kernel⟩, List.mem_of_getElem? (i := 1169) (by decide +kernel), List.mem_of_getElem? (i := 1386) (by decide +kernel), List.mem_of_getElem? (i := 1387) (by decide +kernel)⟩
theorem lw_p53 : lw_okq (⟨"EvenFerryModel", "ends", "()Z"⟩, 55) := ⟨⟨by decide +kernel, by decide +kernel⟩, List.mem_of_getElem? (i := 1169) (by decide +kernel), List.mem_of_getElem? (i := 1393) (by decide +kernel), List.mem_of_getElem? (i := 1394) (by decide +kernel)⟩
theorem lw_p54 : lw_okq (⟨"EvenFerryModel", "isSign", "(I)Z"⟩, 55) := ⟨⟨by decide +kernel, by decide +kernel⟩, List.mem_of_getElem? (i := 1169) (by decide +kernel), List.mem_of_getElem? (i := 1397) (by decide +kernel), List.mem_of_getElem? (i := 1398) (by decide +kernel)⟩
theorem lw_p55 : lw_okq (⟨"EvenFerryModel", "readsSide", "()Z"⟩, 55) := ⟨⟨by decide +kernel, by decide +kernel⟩, List.mem_of_getElem? (i := 1169) (by decide +kernel), List.mem_of_getElem? (i := 1404) (by decide +kernel), List.mem_of_getElem? (i := 1405) (by decide +kernel)⟩
theorem lw_p56 : lw_okq (⟨"EvenFerryModel", "needsWord", "(J)Z"⟩, 55) := ⟨⟨by decide +kernel, by decide +kernel⟩, List.mem_of_getElem? (i := 1169) (by decide +kernel), List.mem_of_getElem? (i := 1409) (by decide +kernel), List.mem_of_getElem? (i := 1410) (by decide +kernel)⟩
theorem lw_p57 : lw_okq (⟨"EvenFerryModel", "readsLaw", "()Z"⟩, 55) := ⟨⟨by decide +kernel, by decide +kernel⟩, List.mem_of_getElem? (i := 1169) (by decide +kernel), List.mem_of_getElem? (i := 1416) (by decide +kernel), List.mem_of_getElem? (i := 1417) (by decide +kernel)⟩
theorem lw_p58 : lw_okq (⟨"EvenFerryModel", "reads", "()Z"⟩, 55) := ⟨⟨by decide +kernel, by decide +kernel⟩, List.mem_of_getElem? (i := 1169) (by decide +kernel), List.mem_of_getElem? (i := 1420) (by decide +kernel), List.mem_of_getElem? (i := 1421) (by decide +kernel)⟩
theorem lw_p59 : lw_okq (⟨"EvenFerryModel", "fact", "()I"⟩, 55) := ⟨⟨by decide +kernel, by decide +kernel⟩, List.mem_of_getElem? (i := 1169) (by decide +kernel), List.mem_of_getElem? (i := 1424) (by decide +kernel), List.mem_of_getElem? (i := 1425) (by decide +kernel)⟩
theorem lw_p60 : lw_okq (⟨"EvenFerryModel", "puts", "(I)V"⟩, 55) := ⟨⟨by decide +kernel, by decide +kernel⟩, List.mem_of_getElem? (i := 1169) (by decide +kernel), List.mem_of_getElem? (i := 1435) (by decide +kernel), List.mem_of_getElem? (i := 1436) (by decide +kernel)⟩
theorem lw_p61 : lw_okq (⟨"EvenFerryModel", "readsPerson", "()Z"⟩, 55) := ⟨⟨by decide +kernel, by decide +kernel⟩, List.mem_of_getElem? (i := 1169) (by decide +kernel), List.mem_of_getElem? (i := 1442) (by decide +kernel), List.mem_of_getElem? (i := 1443) (by decide +kernel)⟩
theorem lw_p62 : lw_okq (⟨"EvenFerryModel", "isKept", "()Z"⟩, 55) := ⟨⟨by decide +kernel, by decide +kernel⟩, List.mem_of_getElem? (i := 1169) (by decide +kernel), List.mem_of_getElem? (i := 1446) (by decide +kernel), List.mem_of_getElem? (i := 1447) (by decide +kernel)⟩
theorem lw_p63 : lw_okq (⟨"EvenFerryModel", "kindAt", "()I"⟩, 55) := ⟨⟨by decide +kernel, by decide +kernel⟩, List.mem_of_getElem? (i := 1169) (by decide +kernel), List.mem_of_getElem? (i := 1459) (by decide +kernel), List.mem_of_getElem? (i := 1460) (by decide +kernel)⟩
def lw_privs_4 : List (MethodName × Nat) := [(⟨"EvenFerryModel", "signAt", "(I)I"⟩, 55), (⟨"EvenFerryModel", "isWord", "(J)Z"⟩, 55), (⟨"EvenFerryModel", "readsOne", "(III)Z"⟩, 55), (⟨"EvenFerryModel", "fails", "(I)Z"⟩, 55), (⟨"EvenFerryModel", "needsNumber", "(II)Z"⟩, 55), (⟨"EvenFerryModel", "ends", "()Z"⟩, 55), (⟨"EvenFerryModel", "isSign", "(I)Z"⟩, 55), (⟨"EvenFerryModel", "readsSide", "()Z"⟩, 55), (⟨"EvenFerryModel", "needsWord", "(J)Z"⟩, 55), (⟨"EvenFerryModel", "readsLaw", "()Z"⟩, 55), (⟨"EvenFerryModel", "reads", "()Z"⟩, 55), (⟨"EvenFerryModel", "fact", "()I"⟩, 55), (⟨"EvenFerryModel", "puts", "(I)V"⟩, 55), (⟨"EvenFerryModel", "readsPerson", "()Z"⟩, 55), (⟨"EvenFerryModel", "isKept", "()Z"⟩, 55), (⟨"EvenFerryModel", "kindAt", "()I"⟩, 55)]
theorem lw_r4 : ∀ q ∈ lw_privs_4, lw_okq q := List.forall_mem_cons.mpr ⟨lw_p48, List.forall_mem_cons.mpr ⟨lw_p49, List.forall_mem_cons.mpr ⟨lw_p50, List.forall_mem_cons.mpr ⟨lw_p51, List.forall_mem_cons.mpr ⟨lw_p52, List.forall_mem_cons.mpr ⟨lw_p53, List.forall_mem_cons.mpr ⟨lw_p54, List.forall_mem_cons.mpr ⟨lw_p55, List.forall_mem_cons.mpr ⟨lw_p56, List.forall_mem_cons.mpr ⟨lw_p57, List.forall_mem_cons.mpr ⟨lw_p58, List.forall_mem_cons.mpr ⟨lw_p59, List.forall_mem_cons.mpr ⟨lw_p60, List.forall_mem_cons.mpr ⟨lw_p61, List.forall_mem_cons.mpr ⟨lw_p62, List.forall_mem_cons.mpr ⟨lw_p63, fun _ h => absurd h List.not_mem_nil⟩⟩⟩⟩⟩⟩⟩⟩⟩⟩⟩⟩⟩⟩⟩⟩
theorem lw_p64 : lw_okq (⟨"EvenFerryModel", "choosers", "(I)I"⟩, 55) := ⟨⟨by decide +kernel, by decide +kernel⟩, List.mem_of_getElem? (i := 1169) (by decide +kernel), List.mem_of_getElem? (i := 1463) (by decide +kernel), List.mem_of_getElem? (i := 1464) (by decide +kernel)⟩
theorem lw_p65 : lw_okq (⟨"EvenFerryModel", "lays", "(II)V"⟩, 55) := ⟨⟨by decide +kernel, by decide +kernel⟩, List.mem_of_getElem? (i := 1169) (by decide +kernel), List.mem_of_getElem? (i := 1467) (by decide +kernel), List.mem_of_getElem? (i := 1468) (by decide +kernel)⟩
theorem lw_p66 : lw_okq (⟨"EvenFerryModel", "isPerson", "(I)Z"⟩, 55) := ⟨⟨by decide +kernel, by decide +kernel⟩, List.mem_of_getElem? (i := 1169) (by decide +kernel), List.mem_of_getElem? (i := 1478) (by decide +kernel), List.mem_of_getElem? (i := 1479) (by decide +kernel)⟩
theorem lw_p67 : lw_okq (⟨"EvenFerryModel", "day", "(I)V"⟩, 55) := ⟨⟨by decide +kernel, by decide +kernel⟩, List.mem_of_getElem? (i := 1169) (by decide +kernel), List.mem_of_getElem? (i := 1493) (by decide +kernel), List.mem_of_getElem? (i := 1494) (by decide +kernel)⟩
theorem lw_p68 : lw_okq (⟨"EvenFerryModel", "tellsAll", "(I)V"⟩, 55) := ⟨⟨by decide +kernel, by decide +kernel⟩, List.mem_of_getElem? (i := 1169) (by decide +kernel), List.mem_of_getElem? (i := 1497) (by decide +kernel), List.mem_of_getElem? (i := 1498) (by decide +kernel)⟩
theorem lw_p69 : lw_okq (⟨"EvenFerryModel", "dawns", "()V"⟩, 55) := ⟨⟨by decide +kernel, by decide +kernel⟩, List.mem_of_getElem? (i := 1169) (by decide +kernel), List.mem_of_getElem? (i := 1501) (by decide +kernel), List.mem_of_getElem? (i := 1502) (by decide +kernel)⟩
theorem lw_p70 : lw_okq (⟨"EvenFerryModel", "joins", "(IIIII)V"⟩, 55) := ⟨⟨by decide +kernel, by decide +kernel⟩, List.mem_of_getElem? (i := 1169) (by decide +kernel), List.mem_of_getElem? (i := 1506) (by decide +kernel), List.mem_of_getElem? (i := 1507) (by decide +kernel)⟩
theorem lw_p71 : lw_okq (⟨"EvenFerryModel", "goesOn", "(II)V"⟩, 55) := ⟨⟨by decide +kernel, by decide +kernel⟩, List.mem_of_getElem? (i := 1169) (by decide +kernel), List.mem_of_getElem? (i := 1510) (by decide +kernel), List.mem_of_getElem? (i := 1511) (by decide +kernel)⟩
theorem lw_p72 : lw_okq (⟨"EvenFerryModel", "wouldRing", "(I)Z"⟩, 55) := ⟨⟨by decide +kernel, by decide +kernel⟩, List.mem_of_getElem? (i := 1169) (by decide +kernel), List.mem_of_getElem? (i := 1514) (by decide +kernel), List.mem_of_getElem? (i := 1515) (by decide +kernel)⟩
theorem lw_p73 : lw_okq (⟨"EvenFerryModel", "isWaiting", "(II)Z"⟩, 55) := ⟨⟨by decide +kernel, by decide +kernel⟩, List.mem_of_getElem? (i := 1169) (by decide +kernel), List.mem_of_getElem? (i := 1518) (by decide +kernel), List.mem_of_getElem? (i := 1519) (by decide +kernel)⟩
theorem lw_p74 : lw_okq (⟨"EvenFerryModel", "worked", "(I)I"⟩, 55) := ⟨⟨by decide +kernel, by decide +kernel⟩, List.mem_of_getElem? (i := 1169) (by decide +kernel), List.mem_of_getElem? (i := 1522) (by decide +kernel), List.mem_of_getElem? (i := 1523) (by decide +kernel)⟩
theorem lw_p75 : lw_okq (⟨"EvenFerryModel", "opens", "(I)V"⟩, 55) := ⟨⟨by decide +kernel, by decide +kernel⟩, List.mem_of_getElem? (i := 1169) (by decide +kernel), List.mem_of_getElem? (i := 1526) (by decide +kernel), List.mem_of_getElem? (i := 1527) (by decide +kernel)⟩
theorem lw_p76 : lw_okq (⟨"EvenFerryModel", "sums", "(I)V"⟩, 55) := ⟨⟨by decide +kernel, by decide +kernel⟩, List.mem_of_getElem? (i := 1169) (by decide +kernel), List.mem_of_getElem? (i := 1530) (by decide +kernel), List.mem_of_getElem? (i := 1531) (by decide +kernel)⟩
theorem lw_p77 : lw_okq (⟨"EvenFerryModel", "tests", "(I)V"⟩, 55) := ⟨⟨by decide +kernel, by decide +kernel⟩, List.mem_of_getElem? (i := 1169) (by decide +kernel), List.mem_of_getElem? (i := 1534) (by decide +kernel), List.mem_of_getElem? (i := 1535) (by decide +kernel)⟩
theorem lw_p78 : lw_okq (⟨"EvenFerryModel", "ringsOnce", "(I)V"⟩, 55) := ⟨⟨by decide +kernel, by decide +kernel⟩, List.mem_of_getElem? (i := 1169) (by decide +kernel), List.mem_of_getElem? (i := 1538) (by decide +kernel), List.mem_of_getElem? (i := 1539) (by decide +kernel)⟩
theorem lw_p79 : lw_okq (⟨"EvenFerryModel", "leaves", "(II)I"⟩, 55) := ⟨⟨by decide +kernel, by decide +kernel⟩, List.mem_of_getElem? (i := 1169) (by decide +kernel), List.mem_of_getElem? (i := 1542) (by decide +kernel), List.mem_of_getElem? (i := 1543) (by decide +kernel)⟩
def lw_privs_5 : List (MethodName × Nat) := [(⟨"EvenFerryModel", "choosers", "(I)I"⟩, 55), (⟨"EvenFerryModel", "lays", "(II)V"⟩, 55), (⟨"EvenFerryModel", "isPerson", "(I)Z"⟩, 55), (⟨"EvenFerryModel", "day", "(I)V"⟩, 55), (⟨"EvenFerryModel", "tellsAll", "(I)V"⟩, 55), (⟨"EvenFerryModel", "dawns", "()V"⟩, 55), (⟨"EvenFerryModel", "joins", "(IIIII)V"⟩, 55), (⟨"EvenFerryModel", "goesOn", "(II)V"⟩, 55), (⟨"EvenFerryModel", "wouldRing", "(I)Z"⟩, 55), (⟨"EvenFerryModel", "isWaiting", "(II)Z"⟩, 55), (⟨"EvenFerryModel", "worked", "(I)I"⟩, 55), (⟨"EvenFerryModel", "opens", "(I)V"⟩, 55), (⟨"EvenFerryModel", "sums", "(I)V"⟩, 55), (⟨"EvenFerryModel", "tests", "(I)V"⟩, 55), (⟨"EvenFerryModel", "ringsOnce", "(I)V"⟩, 55), (⟨"EvenFerryModel", "leaves", "(II)I"⟩, 55)]
theorem lw_r5 : ∀ q ∈ lw_privs_5, lw_okq q := List.forall_mem_cons.mpr ⟨lw_p64, List.forall_mem_cons.mpr ⟨lw_p65, List.forall_mem_cons.mpr ⟨lw_p66, List.forall_mem_cons.mpr ⟨lw_p67, List.forall_mem_cons.mpr ⟨lw_p68, List.forall_mem_cons.mpr ⟨lw_p69, List.forall_mem_cons.mpr ⟨lw_p70, List.forall_mem_cons.mpr ⟨lw_p71, List.forall_mem_cons.mpr ⟨lw_p72, List.forall_mem_cons.mpr ⟨lw_p73, List.forall_mem_cons.mpr ⟨lw_p74, List.forall_mem_cons.mpr ⟨lw_p75, List.forall_mem_cons.mpr ⟨lw_p76, List.forall_mem_cons.mpr ⟨lw_p77, List.forall_mem_cons.mpr ⟨lw_p78, List.forall_mem_cons.mpr ⟨lw_p79, fun _ h => absurd h List.not_mem_nil⟩⟩⟩⟩⟩⟩⟩⟩⟩⟩⟩⟩⟩⟩⟩⟩
theorem lw_p80 : lw_okq (⟨"EvenFerryModel", "firstOf", "(II)I"⟩, 55) := ⟨⟨by decide +kernel, by decide +kernel⟩, List.mem_of_getElem? (i := 1169) (by decide +kernel), List.mem_of_getElem? (i := 1546) (by decide +kernel), List.mem_of_getElem? (i := 1547) (by decide +kernel)⟩
theorem lw_p81 : lw_okq (⟨"EvenFerryModel", "waitOf", "(I)I"⟩, 55) := ⟨⟨by decide +kernel, by decide +kernel⟩, List.mem_of_getElem? (i := 1169) (by decide +kernel), List.mem_of_getElem? (i := 1558) (by decide +kernel), List.mem_of_getElem? (i := 1559) (by decide +kernel)⟩
theorem lw_p82 : lw_okq (⟨"EvenFerryModel", "costAll", "(I)I"⟩, 55) := ⟨⟨by decide +kernel, by decide +kernel⟩, List.mem_of_getElem? (i := 1169) (by decide +kernel), List.mem_of_getElem? (i := 1566) (by decide +kernel), List.mem_of_getElem? (i := 1567) (by decide +kernel)⟩
theorem lw_p83 : lw_okq (⟨"EvenFerryModel", "waitsBehind", "(II)Z"⟩, 55) := ⟨⟨by decide +kernel, by decide +kernel⟩, List.mem_of_getElem? (i := 1169) (by decide +kernel), List.mem_of_getElem? (i := 1577) (by decide +kernel), List.mem_of_getElem? (i := 1578) (by decide +kernel)⟩
theorem lw_p84 : lw_okq (⟨"EvenFerryModel", "ringsBy", "(III)Z"⟩, 55) := ⟨⟨by decide +kernel, by decide +kernel⟩, List.mem_of_getElem? (i := 1169) (by decide +kernel), List.mem_of_getElem? (i := 1585) (by decide +kernel), List.mem_of_getElem? (i := 1586) (by decide +kernel)⟩
theorem lw_p85 : lw_okq (⟨"EvenFerryModel", "canTurn", "(II)Z"⟩, 55) := ⟨⟨by decide +kernel, by decide +kernel⟩, List.mem_of_getElem? (i := 1169) (by decide +kernel), List.mem_of_getElem? (i := 1593) (by decide +kernel), List.mem_of_getElem? (i := 1594) (by decide +kernel)⟩
theorem lw_p86 : lw_okq (⟨"EvenFerryModel", "turns", "(II)I"⟩, 55) := ⟨⟨by decide +kernel, by decide +kernel⟩, List.mem_of_getElem? (i := 1169) (by decide +kernel), List.mem_of_getElem? (i := 1597) (by decide +kernel), List.mem_of_getElem? (i := 1598) (by decide +kernel)⟩
theorem lw_p87 : lw_okq (⟨"EvenFerryModel", "choices", "()I"⟩, 55) := ⟨⟨by decide +kernel, by decide +kernel⟩, List.mem_of_getElem? (i := 1169) (by decide +kernel), List.mem_of_getElem? (i := 1609) (by decide +kernel), List.mem_of_getElem? (i := 1610) (by decide +kernel)⟩
theorem lw_p88 : lw_okq (⟨"EvenFerryModel", "isRest", "(I)Z"⟩, 55) := ⟨⟨by decide +kernel, by decide +kernel⟩, List.mem_of_getElem? (i := 1169) (by decide +kernel), List.mem_of_getElem? (i := 1621) (by decide +kernel), List.mem_of_getElem? (i := 1622) (by decide +kernel)⟩
theorem lw_p89 : lw_okq (⟨"EvenFerryModel", "chance", "(I)J"⟩, 55) := ⟨⟨by decide +kernel, by decide +kernel⟩, List.mem_of_getElem? (i := 1169) (by decide +kernel), List.mem_of_getElem? (i := 1646) (by decide +kernel), List.mem_of_getElem? (i := 1647) (by decide +kernel)⟩
theorem lw_p90 : lw_okq (⟨"EvenFerryModel", "draws", "(I)I"⟩, 55) := ⟨⟨by decide +kernel, by decide +kernel⟩, List.mem_of_getElem? (i := 1169) (by decide +kernel), List.mem_of_getElem? (i := 1669) (by decide +kernel), List.mem_of_getElem? (i := 1670) (by decide +kernel)⟩
def lw_privs_6 : List (MethodName × Nat) := [(⟨"EvenFerryModel", "firstOf", "(II)I"⟩, 55), (⟨"EvenFerryModel", "waitOf", "(I)I"⟩, 55), (⟨"EvenFerryModel", "costAll", "(I)I"⟩, 55), (⟨"EvenFerryModel", "waitsBehind", "(II)Z"⟩, 55), (⟨"EvenFerryModel", "ringsBy", "(III)Z"⟩, 55), (⟨"EvenFerryModel", "canTurn", "(II)Z"⟩, 55), (⟨"EvenFerryModel", "turns", "(II)I"⟩, 55), (⟨"EvenFerryModel", "choices", "()I"⟩, 55), (⟨"EvenFerryModel", "isRest", "(I)Z"⟩, 55), (⟨"EvenFerryModel", "chance", "(I)J"⟩, 55), (⟨"EvenFerryModel", "draws", "(I)I"⟩, 55)]
theorem lw_r6 : ∀ q ∈ lw_privs_6, lw_okq q := List.forall_mem_cons.mpr ⟨lw_p80, List.forall_mem_cons.mpr ⟨lw_p81, List.forall_mem_cons.mpr ⟨lw_p82, List.forall_mem_cons.mpr ⟨lw_p83, List.forall_mem_cons.mpr ⟨lw_p84, List.forall_mem_cons.mpr ⟨lw_p85, List.forall_mem_cons.mpr ⟨lw_p86, List.forall_mem_cons.mpr ⟨lw_p87, List.forall_mem_cons.mpr ⟨lw_p88, List.forall_mem_cons.mpr ⟨lw_p89, List.forall_mem_cons.mpr ⟨lw_p90, fun _ h => absurd h List.not_mem_nil⟩⟩⟩⟩⟩⟩⟩⟩⟩⟩⟩
def lw_privs : List (MethodName × Nat) := lw_privs_1 ++ (lw_privs_2 ++ (lw_privs_3 ++ (lw_privs_4 ++ (lw_privs_5 ++ (lw_privs_6)))))
def lw_tbl : List Cond := k2_sels lw_privs ++ tables_1
theorem lw_privs_ok : ∀ q ∈ lw_privs, lw_okq q := by
  show ∀ q ∈ lw_privs_1 ++ (lw_privs_2 ++ (lw_privs_3 ++ (lw_privs_4 ++ (lw_privs_5 ++ (lw_privs_6))))), lw_okq q
  exact List.forall_mem_append.mpr ⟨lw_r1, List.forall_mem_append.mpr ⟨lw_r2, List.forall_mem_append.mpr ⟨lw_r3, List.forall_mem_append.mpr ⟨lw_r4, List.forall_mem_append.mpr ⟨lw_r5, lw_r6⟩⟩⟩⟩⟩
end
section
def RX0 : String := "EvenFerry$Bank"
def TX0 : u_T := fun k => match k with
  | 0 => ("EvenFerry$Bank", "row", "[I", true)
  | 1 => ("EvenFerry$Bank", "head", "I", false)
  | 2 => ("EvenFerry$Bank", "tail", "I", false)
  | 3 => ("EvenFerry$Bank", "counts", "I", false)
  | 4 => ("EvenFerry$Bank", "load", "I", false)
  | _ => ("EvenFerry$Bank", "guests", "I", false)
def tyX0 : Nat → FieldType := fun k => match k with
  | 0 => .array .int
  | 1 => .int
  | 2 => .int
  | 3 => .int
  | 4 => .int
  | _ => .int
theorem nmX0 : ∀ a, a < 6 → ∀ b, b < 6 → a ≠ b → (TX0 a).2.1 ≠ (TX0 b).2.1 := by decide +kernel
theorem tyX0_ok : ∀ k, k < 6 → parseFieldDescriptor (TX0 k).2.2.1 = some (tyX0 k) := by decide +kernel
abbrev cX0_init : ByteArray := prog_2_method_1_code
def yX0_init : MethodName := ⟨RX0, "<init>", "(I)V"⟩
abbrev cX0_empty : ByteArray := prog_2_method_2_code
def yX0_empty : MethodName := ⟨RX0, "empty", "()V"⟩
abbrev cX0_join : ByteArray := prog_2_method_3_code
def yX0_join : MethodName := ⟨RX0, "join", "(ILEvenFerry$Crowd;)V"⟩
abbrev cX0_leaveFirst : ByteArray := prog_2_method_4_code
def yX0_leaveFirst : MethodName := ⟨RX0, "leaveFirst", "(LEvenFerry$Crowd;)V"⟩
abbrev cX0_leave : ByteArray := prog_2_method_5_code
def yX0_leave : MethodName := ⟨RX0, "leave", "(ILEvenFerry$Crowd;)V"⟩
abbrev cX0_size : ByteArray := prog_2_method_6_code
def yX0_size : MethodName := ⟨RX0, "size", "()I"⟩
abbrev cX0_countWithGuests : ByteArray := prog_2_method_7_code
def yX0_countWithGuests : MethodName := ⟨RX0, "countWithGuests", "()I"⟩
abbrev cX0_loadWithGuests : ByteArray := prog_2_method_8_code
def yX0_loadWithGuests : MethodName := ⟨RX0, "loadWithGuests", "()I"⟩
def RX1 : String := "EvenFerry$Choices"
def TX1 : u_T := fun k => match k with
  | 0 => ("EvenFerry$Choices", "costs", "[I", true)
  | 1 => ("EvenFerry$Choices", "ownCosts", "[I", true)
  | 2 => ("EvenFerry$Choices", "restBits", "[I", true)
  | 3 => ("EvenFerry$Choices", "sides", "[I", true)
  | 4 => ("EvenFerry$Choices", "cheapest", "I", false)
  | 5 => ("EvenFerry$Choices", "resting", "I", false)
  | _ => ("EvenFerry$Choices", "known", "Z", false)
def tyX1 : Nat → FieldType := fun k => match k with
  | 0 => .array .int
  | 1 => .array .int
  | 2 => .array .int
  | 3 => .array .int
  | 4 => .int
  | 5 => .int
  | _ => .boolean
theorem nmX1 : ∀ a, a < 7 → ∀ b, b < 7 → a ≠ b → (TX1 a).2.1 ≠ (TX1 b).2.1 := by decide +kernel
theorem tyX1_ok : ∀ k, k < 7 → parseFieldDescriptor (TX1 k).2.2.1 = some (tyX1 k) := by decide +kernel
abbrev cX1_init : ByteArray := prog_3_method_1_code
def yX1_init : MethodName := ⟨RX1, "<init>", "()V"⟩
abbrev cX1_weigh : ByteArray := prog_3_method_2_code
def yX1_weigh : MethodName := ⟨RX1, "weigh", "(LEvenFerry$State;LEvenFerry$Day;)V"⟩
abbrev cX1_seat : ByteArray := prog_3_method_3_code
def yX1_seat : MethodName := ⟨RX1, "seat", "(LEvenFerry$River;I)V"⟩
abbrev cX1_findCheapest : ByteArray := prog_3_method_4_code
def yX1_findCheapest : MethodName := ⟨RX1, "findCheapest", "(I)V"⟩
abbrev cX1_findResting : ByteArray := prog_3_method_5_code
def yX1_findResting : MethodName := ⟨RX1, "findResting", "(II)V"⟩
abbrev cX1_isAtRest : ByteArray := prog_3_method_6_code
def yX1_isAtRest : MethodName := ⟨RX1, "isAtRest", "(II)Z"⟩
def RX2 : String := "EvenFerry$Crowd"
def TX2 : u_T := fun k => match k with
  | 0 => ("EvenFerry$Crowd", "times", "[I", true)
  | 1 => ("EvenFerry$Crowd", "sides", "[I", true)
  | 2 => ("EvenFerry$Crowd", "weights", "[I", true)
  | 3 => ("EvenFerry$Crowd", "counts", "[I", true)
  | 4 => ("EvenFerry$Crowd", "order", "[I", true)
  | _ => ("EvenFerry$Crowd", "size", "I", false)
def tyX2 : Nat → FieldType := fun k => match k with
  | 0 => .array .int
  | 1 => .array .int
  | 2 => .array .int
  | 3 => .array .int
  | 4 => .array .int
  | _ => .int
theorem nmX2 : ∀ a, a < 6 → ∀ b, b < 6 → a ≠ b → (TX2 a).2.1 ≠ (TX2 b).2.1 := by decide +kernel
theorem tyX2_ok : ∀ k, k < 6 → parseFieldDescriptor (TX2 k).2.2.1 = some (tyX2 k) := by decide +kernel
abbrev cX2_init : ByteArray := prog_4_method_1_code
def yX2_init : MethodName := ⟨RX2, "<init>", "(I)V"⟩
abbrev cX2_add : ByteArray := prog_4_method_2_code
def yX2_add : MethodName := ⟨RX2, "add", "(IIII)V"⟩
abbrev cX2_timeAt : ByteArray := prog_4_method_3_code
def yX2_timeAt : MethodName := ⟨RX2, "timeAt", "(I)I"⟩
def RX3 : String := "EvenFerry$Day"
def TX3 : u_T := fun k => match k with
  | 0 => ("EvenFerry$Day", "left", "LEvenFerry$Bank;", true)
  | 1 => ("EvenFerry$Day", "right", "LEvenFerry$Bank;", true)
  | 2 => ("EvenFerry$Day", "goesAt", "[I", true)
  | 3 => ("EvenFerry$Day", "goesBy", "[I", true)
  | 4 => ("EvenFerry$Day", "ringMinutes", "[I", true)
  | 5 => ("EvenFerry$Day", "fromLeft", "[I", true)
  | 6 => ("EvenFerry$Day", "fromRight", "[I", true)
  | 7 => ("EvenFerry$Day", "boatBack", "[I", true)
  | 8 => ("EvenFerry$Day", "facts", "[I", true)
  | 9 => ("EvenFerry$Day", "stack", "[I", true)
  | 10 => ("EvenFerry$Day", "ringings", "I", false)
  | 11 => ("EvenFerry$Day", "next", "I", false)
  | 12 => ("EvenFerry$Day", "river", "LEvenFerry$River;", false)
  | 13 => ("EvenFerry$Day", "crowd", "LEvenFerry$Crowd;", false)
  | 14 => ("EvenFerry$Day", "sides", "[I", false)
  | 15 => ("EvenFerry$Day", "law", "I", false)
  | 16 => ("EvenFerry$Day", "leaver", "I", false)
  | _ => ("EvenFerry$Day", "leaving", "I", false)
def tyX3 : Nat → FieldType := fun k => match k with
  | 0 => .object "EvenFerry$Bank"
  | 1 => .object "EvenFerry$Bank"
  | 2 => .array .int
  | 3 => .array .int
  | 4 => .array .int
  | 5 => .array .int
  | 6 => .array .int
  | 7 => .array .int
  | 8 => .array .int
  | 9 => .array .int
  | 10 => .int
  | 11 => .int
  | 12 => .object "EvenFerry$River"
  | 13 => .object "EvenFerry$Crowd"
  | 14 => .array .int
  | 15 => .int
  | 16 => .int
  | _ => .int
theorem nmX3 : ∀ a, a < 18 → ∀ b, b < 18 → a ≠ b → (TX3 a).2.1 ≠ (TX3 b).2.1 := by decide +kernel
theorem tyX3_ok : ∀ k, k < 18 → parseFieldDescriptor (TX3 k).2.2.1 = some (tyX3 k) := by decide +kernel
abbrev cX3_init : ByteArray := prog_5_method_1_code
def yX3_init : MethodName := ⟨RX3, "<init>", "(LEvenFerry$River;I)V"⟩
abbrev cX3_begin : ByteArray := prog_5_method_2_code
def yX3_begin : MethodName := ⟨RX3, "begin", "(LEvenFerry$River;ILEvenFerry$Crowd;[I)V"⟩
abbrev cX3_letGoHome : ByteArray := prog_5_method_3_code
def yX3_letGoHome : MethodName := ⟨RX3, "letGoHome", "(II)V"⟩
abbrev cX3_run : ByteArray := prog_5_method_4_code
def yX3_run : MethodName := ⟨RX3, "run", "(I)V"⟩
abbrev cX3_soonest : ByteArray := prog_5_method_5_code
def yX3_soonest : MethodName := ⟨RX3, "soonest", "(I)I"⟩
abbrev cX3_firstHolding : ByteArray := prog_5_method_6_code
def yX3_firstHolding : MethodName := ⟨RX3, "firstHolding", "(II)I"⟩
abbrev cX3_come : ByteArray := prog_5_method_7_code
def yX3_come : MethodName := ⟨RX3, "come", "(I)V"⟩
abbrev cX3_bankOf : ByteArray := prog_5_method_8_code
def yX3_bankOf : MethodName := ⟨RX3, "bankOf", "(I)LEvenFerry$Bank;"⟩
abbrev cX3_wouldRing : ByteArray := prog_5_method_9_code
def yX3_wouldRing : MethodName := ⟨RX3, "wouldRing", "(I)Z"⟩
abbrev cX3_wouldRingWith : ByteArray := prog_5_method_10_code
def yX3_wouldRingWith : MethodName := ⟨RX3, "wouldRingWith", "(III)Z"⟩
abbrev cX3_freeBoat : ByteArray := prog_5_method_11_code
def yX3_freeBoat : MethodName := ⟨RX3, "freeBoat", "(I)I"⟩
abbrev cX3_gatherFacts : ByteArray := prog_5_method_12_code
def yX3_gatherFacts : MethodName := ⟨RX3, "gatherFacts", "(I)V"⟩
abbrev cX3_earliest : ByteArray := prog_5_method_13_code
def yX3_earliest : MethodName := ⟨RX3, "earliest", "(LEvenFerry$Bank;I)I"⟩
abbrev cX3_goOver : ByteArray := prog_5_method_14_code
def yX3_goOver : MethodName := ⟨RX3, "goOver", "(I)V"⟩
abbrev cX3_board : ByteArray := prog_5_method_15_code
def yX3_board : MethodName := ⟨RX3, "board", "(LEvenFerry$Bank;I)I"⟩
abbrev cX3_misjudged : ByteArray := prog_5_method_16_code
def yX3_misjudged : MethodName := ⟨RX3, "misjudged", "([II)I"⟩
abbrev cX3_isWaitingBehind : ByteArray := prog_5_method_17_code
def yX3_isWaitingBehind : MethodName := ⟨RX3, "isWaitingBehind", "(II)Z"⟩
abbrev cX3_waitOf : ByteArray := prog_5_method_18_code
def yX3_waitOf : MethodName := ⟨RX3, "waitOf", "(I)I"⟩
abbrev cX3_longestWait : ByteArray := prog_5_method_19_code
def yX3_longestWait : MethodName := ⟨RX3, "longestWait", "()I"⟩
abbrev cX3_costOf : ByteArray := prog_5_method_20_code
def yX3_costOf : MethodName := ⟨RX3, "costOf", "(I)I"⟩
abbrev cX3_costWithout : ByteArray := prog_5_method_21_code
def yX3_costWithout : MethodName := ⟨RX3, "costWithout", "(I)I"⟩
def RX4 : String := "EvenFerry$Lots"
def TX4 : u_T := fun k => match k with
  | 0 => ("EvenFerry$Lots", "crowd", "LEvenFerry$Crowd;", true)
  | 1 => ("EvenFerry$Lots", "known", "Z", false)
  | 2 => ("EvenFerry$Lots", "knownSeed", "I", false)
  | 3 => ("EvenFerry$Lots", "knownDays", "I", false)
  | 4 => ("EvenFerry$Lots", "ringings", "I", false)
  | 5 => ("EvenFerry$Lots", "comers", "I", false)
  | 6 => ("EvenFerry$Lots", "waited", "I", false)
  | 7 => ("EvenFerry$Lots", "nights", "I", false)
  | 8 => ("EvenFerry$Lots", "longest", "I", false)
  | _ => ("EvenFerry$Lots", "drawn", "J", false)
def tyX4 : Nat → FieldType := fun k => match k with
  | 0 => .object "EvenFerry$Crowd"
  | 1 => .boolean
  | 2 => .int
  | 3 => .int
  | 4 => .int
  | 5 => .int
  | 6 => .int
  | 7 => .int
  | 8 => .int
  | _ => .long
theorem nmX4 : ∀ a, a < 10 → ∀ b, b < 10 → a ≠ b → (TX4 a).2.1 ≠ (TX4 b).2.1 := by decide +kernel
theorem tyX4_ok : ∀ k, k < 10 → parseFieldDescriptor (TX4 k).2.2.1 = some (tyX4 k) := by decide +kernel
abbrev cX4_init : ByteArray := prog_6_method_1_code
def yX4_init : MethodName := ⟨RX4, "<init>", "()V"⟩
abbrev cX4_isKnown : ByteArray := prog_6_method_2_code
def yX4_isKnown : MethodName := ⟨RX4, "isKnown", "(II)Z"⟩
abbrev cX4_go : ByteArray := prog_6_method_3_code
def yX4_go : MethodName := ⟨RX4, "go", "(LEvenFerry$State;LEvenFerry$Day;II)V"⟩
abbrev cX4_drawCrowd : ByteArray := prog_6_method_4_code
def yX4_drawCrowd : MethodName := ⟨RX4, "drawCrowd", "(LEvenFerry$River;)V"⟩
abbrev cX4_draw : ByteArray := prog_6_method_5_code
def yX4_draw : MethodName := ⟨RX4, "draw", "(I)I"⟩
abbrev cX4_addUp : ByteArray := prog_6_method_6_code
def yX4_addUp : MethodName := ⟨RX4, "addUp", "(LEvenFerry$Day;)V"⟩
def RX5 : String := "EvenFerry$Parser"
def TX5 : u_T := fun k => match k with
  | 0 => ("EvenFerry$Parser", "tape", "LEvenFerry$Tape;", true)
  | 1 => ("EvenFerry$Parser", "names", "[J", true)
  | 2 => ("EvenFerry$Parser", "code", "[I", true)
  | 3 => ("EvenFerry$Parser", "river", "LEvenFerry$River;", false)
  | 4 => ("EvenFerry$Parser", "written", "I", false)
  | 5 => ("EvenFerry$Parser", "token", "I", false)
  | 6 => ("EvenFerry$Parser", "fault", "I", false)
  | _ => ("EvenFerry$Parser", "toldOnce", "I", false)
def tyX5 : Nat → FieldType := fun k => match k with
  | 0 => .object "EvenFerry$Tape"
  | 1 => .array .long
  | 2 => .array .int
  | 3 => .object "EvenFerry$River"
  | 4 => .int
  | 5 => .int
  | 6 => .int
  | _ => .int
theorem nmX5 : ∀ a, a < 8 → ∀ b, b < 8 → a ≠ b → (TX5 a).2.1 ≠ (TX5 b).2.1 := by decide +kernel
theorem tyX5_ok : ∀ k, k < 8 → parseFieldDescriptor (TX5 k).2.2.1 = some (tyX5 k) := by decide +kernel
abbrev cX5_init : ByteArray := prog_7_method_1_code
def yX5_init : MethodName := ⟨RX5, "<init>", "(LEvenFerry$Tape;LEvenFerry$River;)V"⟩
abbrev cX5_read : ByteArray := prog_7_method_2_code
def yX5_read : MethodName := ⟨RX5, "read", "(LEvenFerry$River;)I"⟩
abbrev cX5_kind : ByteArray := prog_7_method_3_code
def yX5_kind : MethodName := ⟨RX5, "kind", "()I"⟩
abbrev cX5_step : ByteArray := prog_7_method_4_code
def yX5_step : MethodName := ⟨RX5, "step", "()V"⟩
abbrev cX5_wrong : ByteArray := prog_7_method_5_code
def yX5_wrong : MethodName := ⟨RX5, "wrong", "(I)V"⟩
abbrev cX5_expect : ByteArray := prog_7_method_6_code
def yX5_expect : MethodName := ⟨RX5, "expect", "(I)V"⟩
abbrev cX5_number : ByteArray := prog_7_method_7_code
def yX5_number : MethodName := ⟨RX5, "number", "(II)I"⟩
abbrev cX5_line : ByteArray := prog_7_method_8_code
def yX5_line : MethodName := ⟨RX5, "line", "()V"⟩
abbrev cX5_lineToldOnce : ByteArray := prog_7_method_9_code
def yX5_lineToldOnce : MethodName := ⟨RX5, "lineToldOnce", "(I)V"⟩
abbrev cX5_personLine : ByteArray := prog_7_method_10_code
def yX5_personLine : MethodName := ⟨RX5, "personLine", "()V"⟩
abbrev cX5_name : ByteArray := prog_7_method_11_code
def yX5_name : MethodName := ⟨RX5, "name", "()V"⟩
abbrev cX5_sideWord : ByteArray := prog_7_method_12_code
def yX5_sideWord : MethodName := ⟨RX5, "sideWord", "()I"⟩
abbrev cX5_kindWord : ByteArray := prog_7_method_13_code
def yX5_kindWord : MethodName := ⟨RX5, "kindWord", "()I"⟩
abbrev cX5_lawLine : ByteArray := prog_7_method_14_code
def yX5_lawLine : MethodName := ⟨RX5, "lawLine", "()V"⟩
abbrev cX5_write : ByteArray := prog_7_method_15_code
def yX5_write : MethodName := ⟨RX5, "write", "(I)V"⟩
abbrev cX5_chain : ByteArray := prog_7_method_16_code
def yX5_chain : MethodName := ⟨RX5, "chain", "(II)V"⟩
abbrev cX5_levelOf : ByteArray := prog_7_method_17_code
def yX5_levelOf : MethodName := ⟨RX5, "levelOf", "(I)I"⟩
abbrev cX5_part : ByteArray := prog_7_method_18_code
def yX5_part : MethodName := ⟨RX5, "part", "(I)V"⟩
def RX6 : String := "EvenFerry$River"
def TX6 : u_T := fun k => match k with
  | 0 => ("EvenFerry$River", "people", "LEvenFerry$Crowd;", true)
  | 1 => ("EvenFerry$River", "costs", "[I", true)
  | 2 => ("EvenFerry$River", "kinds", "[I", true)
  | 3 => ("EvenFerry$River", "chooserPersons", "[I", true)
  | 4 => ("EvenFerry$River", "lawStarts", "[I", true)
  | 5 => ("EvenFerry$River", "code", "[I", false)
  | 6 => ("EvenFerry$River", "room", "I", false)
  | 7 => ("EvenFerry$River", "trip", "I", false)
  | 8 => ("EvenFerry$River", "boats", "I", false)
  | 9 => ("EvenFerry$River", "first", "I", false)
  | 10 => ("EvenFerry$River", "second", "I", false)
  | 11 => ("EvenFerry$River", "come", "I", false)
  | 12 => ("EvenFerry$River", "choosers", "I", false)
  | 13 => ("EvenFerry$River", "laws", "I", false)
  | _ => ("EvenFerry$River", "timedLaws", "I", false)
def tyX6 : Nat → FieldType := fun k => match k with
  | 0 => .object "EvenFerry$Crowd"
  | 1 => .array .int
  | 2 => .array .int
  | 3 => .array .int
  | 4 => .array .int
  | 5 => .array .int
  | 6 => .int
  | 7 => .int
  | 8 => .int
  | 9 => .int
  | 10 => .int
  | 11 => .int
  | 12 => .int
  | 13 => .int
  | _ => .int
theorem nmX6 : ∀ a, a < 15 → ∀ b, b < 15 → a ≠ b → (TX6 a).2.1 ≠ (TX6 b).2.1 := by decide +kernel
theorem tyX6_ok : ∀ k, k < 15 → parseFieldDescriptor (TX6 k).2.2.1 = some (tyX6 k) := by decide +kernel
abbrev cX6_init : ByteArray := prog_8_method_1_code
def yX6_init : MethodName := ⟨RX6, "<init>", "()V"⟩
abbrev cX6_addPerson : ByteArray := prog_8_method_2_code
def yX6_addPerson : MethodName := ⟨RX6, "addPerson", "(IIIII)V"⟩
abbrev cX6_countOf : ByteArray := prog_8_method_3_code
def yX6_countOf : MethodName := ⟨RX6, "countOf", "(I)I"⟩
abbrev cX6_endLaw : ByteArray := prog_8_method_4_code
def yX6_endLaw : MethodName := ⟨RX6, "endLaw", "(I)V"⟩
abbrev cX6_isTimed : ByteArray := prog_8_method_5_code
def yX6_isTimed : MethodName := ⟨RX6, "isTimed", "(I)Z"⟩
abbrev cX6_lawValue : ByteArray := prog_8_method_6_code
def yX6_lawValue : MethodName := ⟨RX6, "lawValue", "(I[I[I)I"⟩
abbrev cX6_joined : ByteArray := prog_8_method_7_code
def yX6_joined : MethodName := ⟨RX6, "joined", "(III)I"⟩
def RX7 : String := "EvenFerry$State"
def TX7 : u_T := fun k => match k with
  | 0 => ("EvenFerry$State", "told", "[I", true)
  | 1 => ("EvenFerry$State", "river", "LEvenFerry$River;", false)
  | 2 => ("EvenFerry$State", "law", "I", false)
  | 3 => ("EvenFerry$State", "tolds", "I", false)
  | _ => ("EvenFerry$State", "laid", "Z", false)
def tyX7 : Nat → FieldType := fun k => match k with
  | 0 => .array .int
  | 1 => .object "EvenFerry$River"
  | 2 => .int
  | 3 => .int
  | _ => .boolean
theorem nmX7 : ∀ a, a < 5 → ∀ b, b < 5 → a ≠ b → (TX7 a).2.1 ≠ (TX7 b).2.1 := by decide +kernel
theorem tyX7_ok : ∀ k, k < 5 → parseFieldDescriptor (TX7 k).2.2.1 = some (tyX7 k) := by decide +kernel
abbrev cX7_init : ByteArray := prog_9_method_1_code
def yX7_init : MethodName := ⟨RX7, "<init>", "(LEvenFerry$River;)V"⟩
abbrev cX7_start : ByteArray := prog_9_method_2_code
def yX7_start : MethodName := ⟨RX7, "start", "(LEvenFerry$River;)V"⟩
abbrev cX7_take : ByteArray := prog_9_method_3_code
def yX7_take : MethodName := ⟨RX7, "take", "(LEvenFerry$State;)V"⟩
abbrev cX7_addTold : ByteArray := prog_9_method_4_code
def yX7_addTold : MethodName := ⟨RX7, "addTold", "(I)Z"⟩
abbrev cX7_isTold : ByteArray := prog_9_method_5_code
def yX7_isTold : MethodName := ⟨RX7, "isTold", "(I)Z"⟩
def RX8 : String := "EvenFerry$Tape"
def TX8 : u_T := fun k => match k with
  | 0 => ("EvenFerry$Tape", "signs", "[C", true)
  | 1 => ("EvenFerry$Tape", "kinds", "[I", true)
  | 2 => ("EvenFerry$Tape", "places", "[I", true)
  | 3 => ("EvenFerry$Tape", "length", "I", false)
  | _ => ("EvenFerry$Tape", "tokens", "I", false)
def tyX8 : Nat → FieldType := fun k => match k with
  | 0 => .array .char
  | 1 => .array .int
  | 2 => .array .int
  | 3 => .int
  | _ => .int
theorem nmX8 : ∀ a, a < 5 → ∀ b, b < 5 → a ≠ b → (TX8 a).2.1 ≠ (TX8 b).2.1 := by decide +kernel
theorem tyX8_ok : ∀ k, k < 5 → parseFieldDescriptor (TX8 k).2.2.1 = some (tyX8 k) := by decide +kernel
abbrev cX8_init : ByteArray := prog_10_method_1_code
def yX8_init : MethodName := ⟨RX8, "<init>", "()V"⟩
abbrev cX8_append : ByteArray := prog_10_method_2_code
def yX8_append : MethodName := ⟨RX8, "append", "(J)V"⟩
abbrev cX8_cut : ByteArray := prog_10_method_3_code
def yX8_cut : MethodName := ⟨RX8, "cut", "()V"⟩
abbrev cX8_add : ByteArray := prog_10_method_4_code
def yX8_add : MethodName := ⟨RX8, "add", "(II)V"⟩
abbrev cX8_signAt : ByteArray := prog_10_method_5_code
def yX8_signAt : MethodName := ⟨RX8, "signAt", "(I)C"⟩
abbrev cX8_isLetter : ByteArray := prog_10_method_6_code
def yX8_isLetter : MethodName := ⟨RX8, "isLetter", "(C)Z"⟩
abbrev cX8_isDigit : ByteArray := prog_10_method_7_code
def yX8_isDigit : MethodName := ⟨RX8, "isDigit", "(C)Z"⟩
abbrev cX8_endOfWord : ByteArray := prog_10_method_8_code
def yX8_endOfWord : MethodName := ⟨RX8, "endOfWord", "(I)I"⟩
abbrev cX8_endOfNumber : ByteArray := prog_10_method_9_code
def yX8_endOfNumber : MethodName := ⟨RX8, "endOfNumber", "(I)I"⟩
abbrev cX8_wordKind : ByteArray := prog_10_method_10_code
def yX8_wordKind : MethodName := ⟨RX8, "wordKind", "(II)I"⟩
abbrev cX8_isWord : ByteArray := prog_10_method_11_code
def yX8_isWord : MethodName := ⟨RX8, "isWord", "(III)Z"⟩
abbrev cX8_nameKey : ByteArray := prog_10_method_12_code
def yX8_nameKey : MethodName := ⟨RX8, "nameKey", "(I)J"⟩
abbrev cX8_numberValue : ByteArray := prog_10_method_13_code
def yX8_numberValue : MethodName := ⟨RX8, "numberValue", "(I)I"⟩
def RX9 : String := "EvenFerry"
def TX9 : u_T := fun k => match k with
  | 0 => ("EvenFerry", "tape", "LEvenFerry$Tape;", true)
  | 1 => ("EvenFerry", "parser", "LEvenFerry$Parser;", true)
  | 2 => ("EvenFerry", "now", "LEvenFerry$State;", true)
  | 3 => ("EvenFerry", "marks", "[LEvenFerry$State;", true)
  | 4 => ("EvenFerry", "day", "LEvenFerry$Day;", true)
  | 5 => ("EvenFerry", "trial", "LEvenFerry$Day;", true)
  | 6 => ("EvenFerry", "choices", "LEvenFerry$Choices;", true)
  | 7 => ("EvenFerry", "lots", "LEvenFerry$Lots;", true)
  | _ => ("EvenFerry", "dayKnown", "Z", false)
def tyX9 : Nat → FieldType := fun k => match k with
  | 0 => .object "EvenFerry$Tape"
  | 1 => .object "EvenFerry$Parser"
  | 2 => .object "EvenFerry$State"
  | 3 => .array (.object "EvenFerry$State")
  | 4 => .object "EvenFerry$Day"
  | 5 => .object "EvenFerry$Day"
  | 6 => .object "EvenFerry$Choices"
  | 7 => .object "EvenFerry$Lots"
  | _ => .boolean
theorem nmX9 : ∀ a, a < 9 → ∀ b, b < 9 → a ≠ b → (TX9 a).2.1 ≠ (TX9 b).2.1 := by decide +kernel
theorem tyX9_ok : ∀ k, k < 9 → parseFieldDescriptor (TX9 k).2.2.1 = some (tyX9 k) := by decide +kernel
abbrev cX9_init : ByteArray := prog_1_method_1_code
def yX9_init : MethodName := ⟨RX9, "<init>", "()V"⟩
abbrev cX9_feed : ByteArray := prog_1_method_2_code
def yX9_feed : MethodName := ⟨RX9, "feed", "(JJJ)I"⟩
abbrev cX9_river : ByteArray := prog_1_method_3_code
def yX9_river : MethodName := ⟨RX9, "river", "()I"⟩
abbrev cX9_person : ByteArray := prog_1_method_4_code
def yX9_person : MethodName := ⟨RX9, "person", "(II)I"⟩
abbrev cX9_use : ByteArray := prog_1_method_5_code
def yX9_use : MethodName := ⟨RX9, "use", "(I)Z"⟩
abbrev cX9_rings : ByteArray := prog_1_method_6_code
def yX9_rings : MethodName := ⟨RX9, "rings", "()I"⟩
abbrev cX9_ring : ByteArray := prog_1_method_7_code
def yX9_ring : MethodName := ⟨RX9, "ring", "(II)I"⟩
abbrev cX9_waits : ByteArray := prog_1_method_8_code
def yX9_waits : MethodName := ⟨RX9, "waits", "(II)I"⟩
abbrev cX9_all : ByteArray := prog_1_method_9_code
def yX9_all : MethodName := ⟨RX9, "all", "(I)I"⟩
abbrev cX9_bank : ByteArray := prog_1_method_10_code
def yX9_bank : MethodName := ⟨RX9, "bank", "(III)I"⟩
abbrev cX9_send : ByteArray := prog_1_method_11_code
def yX9_send : MethodName := ⟨RX9, "send", "(II)I"⟩
abbrev cX9_turn : ByteArray := prog_1_method_12_code
def yX9_turn : MethodName := ⟨RX9, "turn", "(II)I"⟩
abbrev cX9_asks : ByteArray := prog_1_method_13_code
def yX9_asks : MethodName := ⟨RX9, "asks", "(I)I"⟩
abbrev cX9_choice : ByteArray := prog_1_method_14_code
def yX9_choice : MethodName := ⟨RX9, "choice", "(I)I"⟩
abbrev cX9_chosen : ByteArray := prog_1_method_15_code
def yX9_chosen : MethodName := ⟨RX9, "chosen", "(I)I"⟩
abbrev cX9_rests : ByteArray := prog_1_method_16_code
def yX9_rests : MethodName := ⟨RX9, "rests", "()I"⟩
abbrev cX9_rest : ByteArray := prog_1_method_17_code
def yX9_rest : MethodName := ⟨RX9, "rest", "(I)I"⟩
abbrev cX9_tell : ByteArray := prog_1_method_18_code
def yX9_tell : MethodName := ⟨RX9, "tell", "(I)I"⟩
abbrev cX9_clear : ByteArray := prog_1_method_19_code
def yX9_clear : MethodName := ⟨RX9, "clear", "()Z"⟩
abbrev cX9_judged : ByteArray := prog_1_method_20_code
def yX9_judged : MethodName := ⟨RX9, "judged", "(I)I"⟩
abbrev cX9_likely : ByteArray := prog_1_method_21_code
def yX9_likely : MethodName := ⟨RX9, "likely", "(II)J"⟩
abbrev cX9_mean : ByteArray := prog_1_method_22_code
def yX9_mean : MethodName := ⟨RX9, "mean", "(II)J"⟩
abbrev cX9_came : ByteArray := prog_1_method_23_code
def yX9_came : MethodName := ⟨RX9, "came", "(I)J"⟩
abbrev cX9_lots : ByteArray := prog_1_method_24_code
def yX9_lots : MethodName := ⟨RX9, "lots", "(III)I"⟩
abbrev cX9_best : ByteArray := prog_1_method_25_code
def yX9_best : MethodName := ⟨RX9, "best", "()I"⟩
abbrev cX9_mark : ByteArray := prog_1_method_26_code
def yX9_mark : MethodName := ⟨RX9, "mark", "(IZ)Z"⟩
abbrev cX9_count : ByteArray := prog_1_method_27_code
def yX9_count : MethodName := ⟨RX9, "count", "(I)I"⟩
abbrev cX9_get : ByteArray := prog_1_method_28_code
def yX9_get : MethodName := ⟨RX9, "get", "([II)I"⟩
abbrev cX9_set : ByteArray := prog_1_method_29_code
def yX9_set : MethodName := ⟨RX9, "set", "([III)V"⟩
abbrev cX9_isMinute : ByteArray := prog_1_method_30_code
def yX9_isMinute : MethodName := ⟨RX9, "isMinute", "(I)Z"⟩
abbrev cX9_isPerson : ByteArray := prog_1_method_31_code
def yX9_isPerson : MethodName := ⟨RX9, "isPerson", "(I)Z"⟩
abbrev cX9_forget : ByteArray := prog_1_method_32_code
def yX9_forget : MethodName := ⟨RX9, "forget", "()V"⟩
abbrev cX9_knowDay : ByteArray := prog_1_method_33_code
def yX9_knowDay : MethodName := ⟨RX9, "knowDay", "()V"⟩
abbrev cX9_beginTrial : ByteArray := prog_1_method_34_code
def yX9_beginTrial : MethodName := ⟨RX9, "beginTrial", "(I)V"⟩
abbrev cX9_nightBits : ByteArray := prog_1_method_35_code
def yX9_nightBits : MethodName := ⟨RX9, "nightBits", "()I"⟩
abbrev cX9_waitsAt : ByteArray := prog_1_method_36_code
def yX9_waitsAt : MethodName := ⟨RX9, "waitsAt", "(III)Z"⟩
abbrev cX9_heads : ByteArray := prog_1_method_37_code
def yX9_heads : MethodName := ⟨RX9, "heads", "(II)I"⟩
abbrev cX9_together : ByteArray := prog_1_method_38_code
def yX9_together : MethodName := ⟨RX9, "together", "([III)I"⟩
abbrev cX9_mayTurn : ByteArray := prog_1_method_39_code
def yX9_mayTurn : MethodName := ⟨RX9, "mayTurn", "(II)Z"⟩
abbrev cX9_gainByTurning : ByteArray := prog_1_method_40_code
def yX9_gainByTurning : MethodName := ⟨RX9, "gainByTurning", "(II)I"⟩
abbrev cX9_levels : ByteArray := prog_1_method_41_code
def yX9_levels : MethodName := ⟨RX9, "levels", "(IZ)J"⟩
abbrev cX9_orders : ByteArray := prog_1_method_42_code
def yX9_orders : MethodName := ⟨RX9, "orders", "(I)J"⟩
abbrev cX9_power : ByteArray := prog_1_method_43_code
def yX9_power : MethodName := ⟨RX9, "power", "(JI)J"⟩
abbrev cX9_lowest : ByteArray := prog_1_method_44_code
def yX9_lowest : MethodName := ⟨RX9, "lowest", "(JJJ)J"⟩
def RX10 : String := "EvenFerryModel"
def TX10 : u_T := fun k => match k with
  | 0 => ("EvenFerryModel", "thrown", "I", false)
  | 1 => ("EvenFerryModel", "taped", "I", false)
  | 2 => ("EvenFerryModel", "tape", "[I", true)
  | 3 => ("EvenFerryModel", "size", "I", false)
  | 4 => ("EvenFerryModel", "place", "I", false)
  | 5 => ("EvenFerryModel", "begin", "I", false)
  | 6 => ("EvenFerryModel", "token", "I", false)
  | 7 => ("EvenFerryModel", "word", "J", false)
  | 8 => ("EvenFerryModel", "told", "I", false)
  | 9 => ("EvenFerryModel", "wrong", "I", false)
  | 10 => ("EvenFerryModel", "river", "[I", true)
  | 11 => ("EvenFerryModel", "lineFrom", "[I", true)
  | 12 => ("EvenFerryModel", "lineTo", "[I", true)
  | 13 => ("EvenFerryModel", "codes", "[I", true)
  | 14 => ("EvenFerryModel", "names", "[J", true)
  | 15 => ("EvenFerryModel", "sideOf", "[I", true)
  | 16 => ("EvenFerryModel", "atOf", "[I", true)
  | 17 => ("EvenFerryModel", "weightOf", "[I", true)
  | 18 => ("EvenFerryModel", "costOf", "[I", true)
  | 19 => ("EvenFerryModel", "kindOf", "[I", true)
  | 20 => ("EvenFerryModel", "tellAt", "[I", true)
  | 21 => ("EvenFerryModel", "code", "I", false)
  | 22 => ("EvenFerryModel", "isTold", "I", false)
  | 23 => ("EvenFerryModel", "opened", "[I", true)
  | 24 => ("EvenFerryModel", "compared", "[Z", true)
  | 25 => ("EvenFerryModel", "kept", "[I", true)
  | 26 => ("EvenFerryModel", "keptBy", "[I", true)
  | 27 => ("EvenFerryModel", "ahead", "[I", true)
  | 28 => ("EvenFerryModel", "against", "[I", true)
  | 29 => ("EvenFerryModel", "sum", "[I", true)
  | 30 => ("EvenFerryModel", "sumBy", "[I", true)
  | 31 => ("EvenFerryModel", "term", "[I", true)
  | 32 => ("EvenFerryModel", "termBy", "[I", true)
  | 33 => ("EvenFerryModel", "byNot", "[I", true)
  | 34 => ("EvenFerryModel", "valueOf", "[I", true)
  | 35 => ("EvenFerryModel", "given", "I", false)
  | 36 => ("EvenFerryModel", "people", "I", false)
  | 37 => ("EvenFerryModel", "side", "[I", true)
  | 38 => ("EvenFerryModel", "at", "[I", true)
  | 39 => ("EvenFerryModel", "weight", "[I", true)
  | 40 => ("EvenFerryModel", "cost", "[I", true)
  | 41 => ("EvenFerryModel", "counts", "[I", true)
  | 42 => ("EvenFerryModel", "gone", "[I", true)
  | 43 => ("EvenFerryModel", "goesBy", "[I", true)
  | 44 => ("EvenFerryModel", "rings", "I", false)
  | 45 => ("EvenFerryModel", "ringAt", "[I", true)
  | 46 => ("EvenFerryModel", "ringLeft", "[I", true)
  | 47 => ("EvenFerryModel", "ringRight", "[I", true)
  | 48 => ("EvenFerryModel", "boat0", "I", false)
  | 49 => ("EvenFerryModel", "boat1", "I", false)
  | 50 => ("EvenFerryModel", "law", "I", false)
  | 51 => ("EvenFerryModel", "choiceCost", "[I", true)
  | 52 => ("EvenFerryModel", "own", "[I", true)
  | 53 => ("EvenFerryModel", "g", "J", false)
  | _ => ("EvenFerryModel", "isLaid", "[Z", true)
def tyX10 : Nat → FieldType := fun k => match k with
  | 0 => .int
  | 1 => .int
  | 2 => .array .int
  | 3 => .int
  | 4 => .int
  | 5 => .int
  | 6 => .int
  | 7 => .long
  | 8 => .int
  | 9 => .int
  | 10 => .array .int
  | 11 => .array .int
  | 12 => .array .int
  | 13 => .array .int
  | 14 => .array .long
  | 15 => .array .int
  | 16 => .array .int
  | 17 => .array .int
  | 18 => .array .int
  | 19 => .array .int
  | 20 => .array .int
  | 21 => .int
  | 22 => .int
  | 23 => .array .int
  | 24 => .array .boolean
  | 25 => .array .int
  | 26 => .array .int
  | 27 => .array .int
  | 28 => .array .int
  | 29 => .array .int
  | 30 => .array .int
  | 31 => .array .int
  | 32 => .array .int
  | 33 => .array .int
  | 34 => .array .int
  | 35 => .int
  | 36 => .int
  | 37 => .array .int
  | 38 => .array .int
  | 39 => .array .int
  | 40 => .array .int
  | 41 => .array .int
  | 42 => .array .int
  | 43 => .array .int
  | 44 => .int
  | 45 => .array .int
  | 46 => .array .int
  | 47 => .array .int
  | 48 => .int
  | 49 => .int
  | 50 => .int
  | 51 => .array .int
  | 52 => .array .int
  | 53 => .long
  | _ => .array .boolean
theorem nmX10 : ∀ a, a < 55 → ∀ b, b < 55 → a ≠ b → (TX10 a).2.1 ≠ (TX10 b).2.1 := by decide +kernel
theorem tyX10_ok : ∀ k, k < 55 → parseFieldDescriptor (TX10 k).2.2.1 = some (tyX10 k) := by decide +kernel
abbrev cX10_init : ByteArray := prog_12_method_1_code
def yX10_init : MethodName := ⟨RX10, "<init>", "()V"⟩
abbrev cX10_thrown : ByteArray := prog_12_method_2_code
def yX10_thrown : MethodName := ⟨RX10, "thrown", "()I"⟩
abbrev cX10_within : ByteArray := prog_12_method_3_code
def yX10_within : MethodName := ⟨RX10, "within", "(III)Z"⟩
abbrev cX10_gcd : ByteArray := prog_12_method_4_code
def yX10_gcd : MethodName := ⟨RX10, "gcd", "(JJ)J"⟩
abbrev cX10_feed : ByteArray := prog_12_method_5_code
def yX10_feed : MethodName := ⟨RX10, "feed", "(JJJ)I"⟩
abbrev cX10_signAt : ByteArray := prog_12_method_6_code
def yX10_signAt : MethodName := ⟨RX10, "signAt", "(I)I"⟩
abbrev cX10_nextToken : ByteArray := prog_12_method_7_code
def yX10_nextToken : MethodName := ⟨RX10, "nextToken", "()V"⟩
abbrev cX10_isWord : ByteArray := prog_12_method_8_code
def yX10_isWord : MethodName := ⟨RX10, "isWord", "(J)Z"⟩
abbrev cX10_isSign : ByteArray := prog_12_method_9_code
def yX10_isSign : MethodName := ⟨RX10, "isSign", "(I)Z"⟩
abbrev cX10_fails : ByteArray := prog_12_method_10_code
def yX10_fails : MethodName := ⟨RX10, "fails", "(I)Z"⟩
abbrev cX10_starts0 : ByteArray := prog_12_method_11_code
def yX10_starts0 : MethodName := ⟨RX10, "starts0", "(I)V"⟩
abbrev cX10_puts : ByteArray := prog_12_method_12_code
def yX10_puts : MethodName := ⟨RX10, "puts", "(I)V"⟩
abbrev cX10_fact : ByteArray := prog_12_method_13_code
def yX10_fact : MethodName := ⟨RX10, "fact", "()I"⟩
abbrev cX10_reads : ByteArray := prog_12_method_14_code
def yX10_reads : MethodName := ⟨RX10, "reads", "()Z"⟩
abbrev cX10_opens : ByteArray := prog_12_method_15_code
def yX10_opens : MethodName := ⟨RX10, "opens", "(I)V"⟩
abbrev cX10_sums : ByteArray := prog_12_method_16_code
def yX10_sums : MethodName := ⟨RX10, "sums", "(I)V"⟩
abbrev cX10_tests : ByteArray := prog_12_method_17_code
def yX10_tests : MethodName := ⟨RX10, "tests", "(I)V"⟩
abbrev cX10_worked : ByteArray := prog_12_method_18_code
def yX10_worked : MethodName := ⟨RX10, "worked", "(I)I"⟩
abbrev cX10_isKept : ByteArray := prog_12_method_19_code
def yX10_isKept : MethodName := ⟨RX10, "isKept", "()Z"⟩
abbrev cX10_needsNumber : ByteArray := prog_12_method_20_code
def yX10_needsNumber : MethodName := ⟨RX10, "needsNumber", "(II)Z"⟩
abbrev cX10_needsWord : ByteArray := prog_12_method_21_code
def yX10_needsWord : MethodName := ⟨RX10, "needsWord", "(J)Z"⟩
abbrev cX10_ends : ByteArray := prog_12_method_22_code
def yX10_ends : MethodName := ⟨RX10, "ends", "()Z"⟩
abbrev cX10_readsOne : ByteArray := prog_12_method_23_code
def yX10_readsOne : MethodName := ⟨RX10, "readsOne", "(III)Z"⟩
abbrev cX10_readsSide : ByteArray := prog_12_method_24_code
def yX10_readsSide : MethodName := ⟨RX10, "readsSide", "()Z"⟩
abbrev cX10_readsLaw : ByteArray := prog_12_method_25_code
def yX10_readsLaw : MethodName := ⟨RX10, "readsLaw", "()Z"⟩
abbrev cX10_kindAt : ByteArray := prog_12_method_26_code
def yX10_kindAt : MethodName := ⟨RX10, "kindAt", "()I"⟩
abbrev cX10_choosers : ByteArray := prog_12_method_27_code
def yX10_choosers : MethodName := ⟨RX10, "choosers", "(I)I"⟩
abbrev cX10_readsPerson : ByteArray := prog_12_method_28_code
def yX10_readsPerson : MethodName := ⟨RX10, "readsPerson", "()Z"⟩
abbrev cX10_readsAll : ByteArray := prog_12_method_29_code
def yX10_readsAll : MethodName := ⟨RX10, "readsAll", "()Z"⟩
abbrev cX10_moves : ByteArray := prog_12_method_30_code
def yX10_moves : MethodName := ⟨RX10, "moves", "([IIII)V"⟩
abbrev cX10_lays : ByteArray := prog_12_method_31_code
def yX10_lays : MethodName := ⟨RX10, "lays", "(II)V"⟩
abbrev cX10_river : ByteArray := prog_12_method_32_code
def yX10_river : MethodName := ⟨RX10, "river", "()I"⟩
abbrev cX10_isPerson : ByteArray := prog_12_method_33_code
def yX10_isPerson : MethodName := ⟨RX10, "isPerson", "(I)Z"⟩
abbrev cX10_isMinute : ByteArray := prog_12_method_34_code
def yX10_isMinute : MethodName := ⟨RX10, "isMinute", "(I)Z"⟩
abbrev cX10_countOf : ByteArray := prog_12_method_35_code
def yX10_countOf : MethodName := ⟨RX10, "countOf", "(I)I"⟩
abbrev cX10_person : ByteArray := prog_12_method_36_code
def yX10_person : MethodName := ⟨RX10, "person", "(II)I"⟩
abbrev cX10_use : ByteArray := prog_12_method_37_code
def yX10_use : MethodName := ⟨RX10, "use", "(I)Z"⟩
abbrev cX10_joins : ByteArray := prog_12_method_38_code
def yX10_joins : MethodName := ⟨RX10, "joins", "(IIIII)V"⟩
abbrev cX10_dawns : ByteArray := prog_12_method_39_code
def yX10_dawns : MethodName := ⟨RX10, "dawns", "()V"⟩
abbrev cX10_tellsAll : ByteArray := prog_12_method_40_code
def yX10_tellsAll : MethodName := ⟨RX10, "tellsAll", "(I)V"⟩
abbrev cX10_isWaiting : ByteArray := prog_12_method_41_code
def yX10_isWaiting : MethodName := ⟨RX10, "isWaiting", "(II)Z"⟩
abbrev cX10_wouldRing : ByteArray := prog_12_method_42_code
def yX10_wouldRing : MethodName := ⟨RX10, "wouldRing", "(I)Z"⟩
abbrev cX10_firstOf : ByteArray := prog_12_method_43_code
def yX10_firstOf : MethodName := ⟨RX10, "firstOf", "(II)I"⟩
abbrev cX10_leaves : ByteArray := prog_12_method_44_code
def yX10_leaves : MethodName := ⟨RX10, "leaves", "(II)I"⟩
abbrev cX10_ringsOnce : ByteArray := prog_12_method_45_code
def yX10_ringsOnce : MethodName := ⟨RX10, "ringsOnce", "(I)V"⟩
abbrev cX10_goesOn : ByteArray := prog_12_method_46_code
def yX10_goesOn : MethodName := ⟨RX10, "goesOn", "(II)V"⟩
abbrev cX10_day : ByteArray := prog_12_method_47_code
def yX10_day : MethodName := ⟨RX10, "day", "(I)V"⟩
abbrev cX10_waitOf : ByteArray := prog_12_method_48_code
def yX10_waitOf : MethodName := ⟨RX10, "waitOf", "(I)I"⟩
abbrev cX10_costAll : ByteArray := prog_12_method_49_code
def yX10_costAll : MethodName := ⟨RX10, "costAll", "(I)I"⟩
abbrev cX10_rings : ByteArray := prog_12_method_50_code
def yX10_rings : MethodName := ⟨RX10, "rings", "()I"⟩
abbrev cX10_ring : ByteArray := prog_12_method_51_code
def yX10_ring : MethodName := ⟨RX10, "ring", "(II)I"⟩
abbrev cX10_waits : ByteArray := prog_12_method_52_code
def yX10_waits : MethodName := ⟨RX10, "waits", "(II)I"⟩
abbrev cX10_all : ByteArray := prog_12_method_53_code
def yX10_all : MethodName := ⟨RX10, "all", "(I)I"⟩
abbrev cX10_waitsBehind : ByteArray := prog_12_method_54_code
def yX10_waitsBehind : MethodName := ⟨RX10, "waitsBehind", "(II)Z"⟩
abbrev cX10_bank : ByteArray := prog_12_method_55_code
def yX10_bank : MethodName := ⟨RX10, "bank", "(III)I"⟩
abbrev cX10_ringsBy : ByteArray := prog_12_method_56_code
def yX10_ringsBy : MethodName := ⟨RX10, "ringsBy", "(III)Z"⟩
abbrev cX10_send : ByteArray := prog_12_method_57_code
def yX10_send : MethodName := ⟨RX10, "send", "(II)I"⟩
abbrev cX10_canTurn : ByteArray := prog_12_method_58_code
def yX10_canTurn : MethodName := ⟨RX10, "canTurn", "(II)Z"⟩
abbrev cX10_turns : ByteArray := prog_12_method_59_code
def yX10_turns : MethodName := ⟨RX10, "turns", "(II)I"⟩
abbrev cX10_turn : ByteArray := prog_12_method_60_code
def yX10_turn : MethodName := ⟨RX10, "turn", "(II)I"⟩
abbrev cX10_asks : ByteArray := prog_12_method_61_code
def yX10_asks : MethodName := ⟨RX10, "asks", "(I)I"⟩
abbrev cX10_choices : ByteArray := prog_12_method_62_code
def yX10_choices : MethodName := ⟨RX10, "choices", "()I"⟩
abbrev cX10_choice : ByteArray := prog_12_method_63_code
def yX10_choice : MethodName := ⟨RX10, "choice", "(I)I"⟩
abbrev cX10_chosen : ByteArray := prog_12_method_64_code
def yX10_chosen : MethodName := ⟨RX10, "chosen", "(I)I"⟩
abbrev cX10_isRest : ByteArray := prog_12_method_65_code
def yX10_isRest : MethodName := ⟨RX10, "isRest", "(I)Z"⟩
abbrev cX10_rests : ByteArray := prog_12_method_66_code
def yX10_rests : MethodName := ⟨RX10, "rests", "()I"⟩
abbrev cX10_rest : ByteArray := prog_12_method_67_code
def yX10_rest : MethodName := ⟨RX10, "rest", "(I)I"⟩
abbrev cX10_tell : ByteArray := prog_12_method_68_code
def yX10_tell : MethodName := ⟨RX10, "tell", "(I)I"⟩
abbrev cX10_clear : ByteArray := prog_12_method_69_code
def yX10_clear : MethodName := ⟨RX10, "clear", "()Z"⟩
abbrev cX10_judged : ByteArray := prog_12_method_70_code
def yX10_judged : MethodName := ⟨RX10, "judged", "(I)I"⟩
abbrev cX10_firsts : ByteArray := prog_12_method_71_code
def yX10_firsts : MethodName := ⟨RX10, "firsts", "(I)J"⟩
abbrev cX10_chance : ByteArray := prog_12_method_72_code
def yX10_chance : MethodName := ⟨RX10, "chance", "(I)J"⟩
abbrev cX10_likely : ByteArray := prog_12_method_73_code
def yX10_likely : MethodName := ⟨RX10, "likely", "(II)J"⟩
abbrev cX10_mean : ByteArray := prog_12_method_74_code
def yX10_mean : MethodName := ⟨RX10, "mean", "(II)J"⟩
abbrev cX10_came : ByteArray := prog_12_method_75_code
def yX10_came : MethodName := ⟨RX10, "came", "(I)J"⟩
abbrev cX10_draws : ByteArray := prog_12_method_76_code
def yX10_draws : MethodName := ⟨RX10, "draws", "(I)I"⟩
abbrev cX10_lots : ByteArray := prog_12_method_77_code
def yX10_lots : MethodName := ⟨RX10, "lots", "(III)I"⟩
abbrev cX10_best : ByteArray := prog_12_method_78_code
def yX10_best : MethodName := ⟨RX10, "best", "()I"⟩
abbrev cX10_mark : ByteArray := prog_12_method_79_code
def yX10_mark : MethodName := ⟨RX10, "mark", "(IZ)Z"⟩
abbrev cX10_count : ByteArray := prog_12_method_80_code
def yX10_count : MethodName := ⟨RX10, "count", "(I)I"⟩
def RJx145de : String := "java/io/Serializable"
def RJx9f9b0 : String := "java/lang/CharSequence"
def RJ11 : String := "java/lang/Character"
abbrev cJ11_isValidCodePoint_9a6ad : ByteArray := prog_15_method_11_code
def yJ11_isValidCodePoint_9a6ad : MethodName := ⟨RJ11, "isValidCodePoint", "(I)Z"⟩
abbrev cJ11_highSurrogate_5068e : ByteArray := prog_15_method_28_code
def yJ11_highSurrogate_5068e : MethodName := ⟨RJ11, "highSurrogate", "(I)C"⟩
abbrev cJ11_lowSurrogate_5068e : ByteArray := prog_15_method_29_code
def yJ11_lowSurrogate_5068e : MethodName := ⟨RJ11, "lowSurrogate", "(I)C"⟩
def RJx8e188 : String := "java/lang/Cloneable"
def RJxb160c : String := "java/lang/Comparable"
def RJ9 : String := "java/lang/Math"
abbrev cJ9_max_7cf53 : ByteArray := prog_19_method_65_code
def yJ9_max_7cf53 : MethodName := ⟨RJ9, "max", "(II)I"⟩
abbrev cJ9_min_7cf53 : ByteArray := prog_19_method_69_code
def yJ9_min_7cf53 : MethodName := ⟨RJ9, "min", "(II)I"⟩
def RJ0 : String := "java/lang/String"
abbrev cJ0_length_8abf5 : ByteArray := prog_21_method_54_code
def yJ0_length_8abf5 : MethodName := ⟨RJ0, "length", "()I"⟩
abbrev cJ0_charAt_5068e : ByteArray := prog_21_method_56_code
def yJ0_charAt_5068e : MethodName := ⟨RJ0, "charAt", "(I)C"⟩
abbrev cJ0_indexOf_0f7a4 : ByteArray := prog_21_method_79_code
def yJ0_indexOf_0f7a4 : MethodName := ⟨RJ0, "indexOf", "(I)I"⟩
abbrev cJ0_indexOf_7cf53 : ByteArray := prog_21_method_80_code
def yJ0_indexOf_7cf53 : MethodName := ⟨RJ0, "indexOf", "(II)I"⟩
abbrev cJ0_coder_7d493 : ByteArray := prog_21_method_152_code
def yJ0_coder_7d493 : MethodName := ⟨RJ0, "coder", "()B"⟩
abbrev cJ0_isLatin1_aae02 : ByteArray := prog_21_method_154_code
def yJ0_isLatin1_aae02 : MethodName := ⟨RJ0, "isLatin1", "()Z"⟩
abbrev cJ0_checkIndex_df160 : ByteArray := prog_21_method_155_code
def yJ0_checkIndex_df160 : MethodName := ⟨RJ0, "checkIndex", "(II)V"⟩
abbrev cJ0_checkBoundsBeginEnd_23922 : ByteArray := prog_21_method_158_code
def yJ0_checkBoundsBeginEnd_23922 : MethodName := ⟨RJ0, "checkBoundsBeginEnd", "(III)V"⟩
def RJ1 : String := "java/lang/StringLatin1"
abbrev cJ1_charAt_3b067 : ByteArray := prog_22_method_2_code
def yJ1_charAt_3b067 : MethodName := ⟨RJ1, "charAt", "([BI)C"⟩
abbrev cJ1_canEncode_9a6ad : ByteArray := prog_22_method_4_code
def yJ1_canEncode_9a6ad : MethodName := ⟨RJ1, "canEncode", "(I)Z"⟩
abbrev cJ1_indexOf_4cfef : ByteArray := prog_22_method_22_code
def yJ1_indexOf_4cfef : MethodName := ⟨RJ1, "indexOf", "([BIII)I"⟩
abbrev cJ1_indexOfChar_4cfef : ByteArray := prog_22_method_23_code
def yJ1_indexOfChar_4cfef : MethodName := ⟨RJ1, "indexOfChar", "([BIII)I"⟩
def RJ2 : String := "java/lang/StringUTF16"
abbrev cJ2_getChar_3b067 : ByteArray := prog_23_method_5_code
def yJ2_getChar_3b067 : MethodName := ⟨RJ2, "getChar", "([BI)C"⟩
abbrev cJ2_length_9d52b : ByteArray := prog_23_method_6_code
def yJ2_length_9d52b : MethodName := ⟨RJ2, "length", "([B)I"⟩
abbrev cJ2_indexOf_4cfef : ByteArray := prog_23_method_40_code
def yJ2_indexOf_4cfef : MethodName := ⟨RJ2, "indexOf", "([BIII)I"⟩
abbrev cJ2_indexOfChar_4cfef : ByteArray := prog_23_method_47_code
def yJ2_indexOfChar_4cfef : MethodName := ⟨RJ2, "indexOfChar", "([BIII)I"⟩
abbrev cJ2_indexOfCharUnsafe_4cfef : ByteArray := prog_23_method_48_code
def yJ2_indexOfCharUnsafe_4cfef : MethodName := ⟨RJ2, "indexOfCharUnsafe", "([BIII)I"⟩
abbrev cJ2_indexOfSupplementary_4cfef : ByteArray := prog_23_method_49_code
def yJ2_indexOfSupplementary_4cfef : MethodName := ⟨RJ2, "indexOfSupplementary", "([BIII)I"⟩
abbrev cJ2_charAt_3b067 : ByteArray := prog_23_method_83_code
def yJ2_charAt_3b067 : MethodName := ⟨RJ2, "charAt", "([BI)C"⟩
abbrev cJ2_checkIndex_2214a : ByteArray := prog_23_method_91_code
def yJ2_checkIndex_2214a : MethodName := ⟨RJ2, "checkIndex", "(I[B)V"⟩
abbrev cJ2_checkBoundsBeginEnd_d044e : ByteArray := prog_23_method_93_code
def yJ2_checkBoundsBeginEnd_d044e : MethodName := ⟨RJ2, "checkBoundsBeginEnd", "(II[B)V"⟩
def RJ10 : String := "java/lang/System"
def RJxfd54e : String := "java/lang/constant/Constable"
def RJx3cf43 : String := "java/lang/constant/ConstantDesc"
def RJ7 : String := "java/util/Arrays"
abbrev cJ7_copyOf_59c91 : ByteArray := prog_28_method_123_code
def yJ7_copyOf_59c91 : MethodName := ⟨RJ7, "copyOf", "([II)[I"⟩
def RJ3 : String := "jdk/internal/util/Preconditions"
abbrev cJ3_checkIndex_8e157 : ByteArray := prog_30_method_11_code
def yJ3_checkIndex_8e157 : MethodName := ⟨RJ3, "checkIndex", "(IILjava/util/function/BiFunction;)I"⟩
abbrev cJ3_checkFromToIndex_8c36e : ByteArray := prog_30_method_12_code
def yJ3_checkFromToIndex_8c36e : MethodName := ⟨RJ3, "checkFromToIndex", "(IIILjava/util/function/BiFunction;)I"⟩
def RL : String := "EvenFerryLaw"
abbrev cL_turn : ByteArray := method_3_code
def yL_turn : MethodName := ⟨RL, "turn", "(LEvenFerry;II[J)I"⟩
abbrev cL_law : ByteArray := code
def yL_law : MethodName := ⟨RL, "law", "([I)Z"⟩
abbrev vwCl : List vw_C := [(RX0, TX0, 6), (RX1, TX1, 7), (RX2, TX2, 6), (RX3, TX3, 18), (RX4, TX4, 10), (RX5, TX5, 8), (RX6, TX6, 15), (RX7, TX7, 5), (RX8, TX8, 5), (RX9, TX9, 9), (RX10, TX10, 55)]
end
section
/-! THE PICTURE OF THE HEAP. A cell at an address: its kind (0 .. 10 the claim's classes as in vwCl, 11 char, 12 int, 13 long, 14 boolean, 15 State arrays, others: nothing known), its length, its ints, longs, references (0: null); the heap's size; the slots made. -/
abbrev am_H : Type := (Nat → Nat) × (Nat → Nat) × (Nat → Nat → Int32) × (Nat → Nat → Int64) × (Nat → Nat → Nat) × Nat × Nat
def hK (h : am_H) : Nat → Nat := h.1
def hN (h : am_H) : Nat → Nat := h.2.1
def hI (h : am_H) : Nat → Nat → Int32 := h.2.2.1
def hJ (h : am_H) : Nat → Nat → Int64 := h.2.2.2.1
def hR (h : am_H) : Nat → Nat → Nat := h.2.2.2.2.1
def hZ (h : am_H) : Nat := h.2.2.2.2.2.1
def hS (h : am_H) : Nat := h.2.2.2.2.2.2
def sI (h : am_H) (a k : Nat) (v : Int32) : am_H := (hK h, hN h, va_up (hI h) a (va_up (hI h a) k v), hJ h, hR h, hZ h, hS h)
def sJ (h : am_H) (a k : Nat) (v : Int64) : am_H := (hK h, hN h, hI h, va_up (hJ h) a (va_up (hJ h a) k v), hR h, hZ h, hS h)
def sR (h : am_H) (a k : Nat) (v : Nat) : am_H := (hK h, hN h, hI h, hJ h, va_up (hR h) a (va_up (hR h a) k v), hZ h, hS h)
/-- a new object of class ci with n fields, a new array of kind k and length n -/
def nO (h : am_H) (ci n : Nat) : am_H := (va_up (hK h) (hZ h) ci, hN h, va_up (hI h) (hZ h) (fun _ => 0), va_up (hJ h) (hZ h) (fun _ => 0), va_up (hR h) (hZ h) (fun _ => 0), hZ h + 1, hS h + n)
def nA (h : am_H) (k n : Nat) : am_H := (va_up (hK h) (hZ h) k, va_up (hN h) (hZ h) n, va_up (hI h) (hZ h) (fun _ => 0), va_up (hJ h) (hZ h) (fun _ => 0), va_up (hR h) (hZ h) (fun _ => 0), hZ h + 1, hS h + n)
/-- a reference by its number -/
def am_o (r : Nat) : Value := if r = 0 then .null else .ref r
theorem am_o_ref {r : Nat} (h : r ≠ 0) : am_o r = .ref r := if_neg h
def am_val (h : am_H) (a k t : Nat) : Value := if t = 0 then .int (hI h a k) else if t = 1 then .long (hJ h a k) else am_o (hR h a k)
def am_tc : FieldType → Nat
  | .long => 1
  | .object _ => 2
  | .array _ => 2
  | _ => 0
def am_tyf (ci : Nat) : Nat → FieldType := if ci = 0 then tyX0 else if ci = 1 then tyX1 else if ci = 2 then tyX2 else if ci = 3 then tyX3 else if ci = 4 then tyX4 else if ci = 5 then tyX5 else if ci = 6 then tyX6 else if ci = 7 then tyX7 else if ci = 8 then tyX8 else if ci = 9 then tyX9 else tyX10
def am_ty (ci k : Nat) : Nat := am_tc (am_tyf ci k)
def am_n (ci : Nat) : Nat := if ci = 0 then 6 else if ci = 1 then 7 else if ci = 2 then 6 else if ci = 3 then 18 else if ci = 4 then 10 else if ci = 5 then 8 else if ci = 6 then 15 else if ci = 7 then 5 else if ci = 8 then 5 else if ci = 9 then 9 else 55
def am_et (k : Nat) : Nat := if k = 13 then 1 else if k = 15 then 2 else 0
def am_aty (k : Nat) : FieldType := if k = 11 then .char else if k = 12 then .int else if k = 13 then .long else if k = 14 then .boolean else .object "EvenFerry$State"
/-- the constants of a run: classes and slots, array classes by their kinds, the first own address, the heap at the start, what else the tables say -/
abbrev am_W : Type := va_G × (Nat → ClassId) × Nat × Heap × (State → Prop)
def am_at (w : am_W) (h : am_H) (H : Heap) (a : Nat) : Prop :=
  if hK h a < 11 then t_OB a (w.1.1 (hK h a)) (am_n (hK h a)) (w.1.2 (hK h a)) H (fun k => am_val h a k (am_ty (hK h a) k))
  else H[a]? = some (arrV (w.2.1 (hK h a)) (hN h a) (fun j => am_val h a j (am_et (hK h a))))
def am_R (w : am_W) (h : am_H) (H : Heap) : Prop := H.size = hZ h ∧ w.2.2.2.1.size = w.2.2.1 ∧ 0 < w.2.2.1 ∧ w.2.2.1 ≤ hZ h ∧ (∀ a : Nat, a < w.2.2.1 → H[a]? = w.2.2.2.1[a]?) ∧ ∀ a, hK h a < 16 → w.2.2.1 ≤ a ∧ am_at w h H a
theorem am_at.lt {w : am_W} {h : am_H} {H : Heap} {a : Nat} (q : am_at w h H a) : a < H.size := by
  unfold am_at at q
  split at q
  · obtain ⟨cell, q1, -⟩ := q
    exact (Array.getElem?_eq_some_iff.mp q1).1
  · exact (Array.getElem?_eq_some_iff.mp q).1
theorem am_at.kept {w : am_W} {h h1 : am_H} {H H1 : Heap} {a : Nat} (q : am_at w h H a) (e : H1[a]? = H[a]?) (k : hK h1 a = hK h a) (n : hN h1 a = hN h a) (v : ∀ j t, am_val h1 a j t = am_val h a j t) : am_at w h1 H1 a := by
  unfold am_at at q ⊢
  rw [k, n]
  split at q
  · rename_i hc
    rw [if_pos hc]
    exact (q.kept e).to (fun j _ => (v j _).symm)
  · rename_i hc
    rw [if_neg hc, e, q]
    congr 2
    funext j
    exact (v j _).symm
/-- a value put at a place -/
def am_set (h : am_H) (a k : Nat) (v : Value) : am_H := match v with
  | .int x => sI h a k x
  | .long x => sJ h a k x
  | .ref r => sR h a k r
  | .null => sR h a k 0
  | _ => h
/-- a value of a type code -/
def am_is (v : Value) (t : Nat) : Prop := match v with
  | .int _ => t = 0
  | .long _ => t = 1
  | .ref r => t = 2 ∧ r ≠ 0
  | .null => t = 2
  | _ => False
theorem am_set_K (h : am_H) (a k : Nat) (v : Value) : hK (am_set h a k v) = hK h := by cases v <;> rfl
theorem am_set_N (h : am_H) (a k : Nat) (v : Value) : hN (am_set h a k v) = hN h := by cases v <;> rfl
theorem am_set_Z (h : am_H) (a k : Nat) (v : Value) : hZ (am_set h a k v) = hZ h := by cases v <;> rfl
theorem am_set_S (h : am_H) (a k : Nat) (v : Value) : hS (am_set h a k v) = hS h := by cases v <;> rfl
theorem am_u2 {α : Type} (f : Nat → Nat → α) (a k : Nat) (v : α) (b j : Nat) (h : b ≠ a ∨ j ≠ k) : va_up f a (va_up (f a) k v) b j = f b j := by
  by_cases hb : b = a
  · subst hb
    rw [va_up_self, va_up_ne _ _ (h.resolve_left (fun q => q rfl))]
  · rw [va_up_ne _ _ hb]
theorem am_set_ne {h : am_H} {a k : Nat} {v : Value} {b j : Nat} (t : Nat) (q : b ≠ a ∨ j ≠ k) : am_val (am_set h a k v) b j t = am_val h b j t := by
  cases v <;> first | rfl | (simp only [am_val, am_set, sI, sJ, sR, hI, hJ, hR]; rw [am_u2 _ _ _ _ _ _ q])
theorem am_set_eq {h : am_H} {a k : Nat} {v : Value} {t : Nat} (q : am_is v t) : am_val (am_set h a k v) a k t = v := by
  cases v with
  | int x => cases q; simp [am_val, am_set, sI, hI, va_up_self]
  | long x => cases q; simp [am_val, am_set, sJ, hJ, va_up_self]
  | ref r => obtain ⟨rfl, hr⟩ := q; simp [am_val, am_set, sR, hR, va_up_self, am_o, hr]
  | null => cases q; simp [am_val, am_set, sR, hR, va_up_self, am_o]
  | _ => exact absurd q id
theorem am_R.put {w : am_W} {h h1 : am_H} {H H1 : Heap} {a : Nat} (q : am_R w h H) (hz : H1.size = H.size) (ho : ∀ b : Nat, b ≠ a → H1[b]? = H[b]?) (ha : hK h a < 16) (z1 : hZ h1 = hZ h) (k1 : hK h1 = hK h) (n1 : hN h1 = hN h) (v1 : ∀ b j t, b ≠ a → am_val h1 b j t = am_val h b j t) (h1a : am_at w h1 H1 a) : am_R w h1 H1 := by
  obtain ⟨q1, q2, q3, q4, q5, q6⟩ := q
  refine ⟨by rw [hz, q1, z1], q2, q3, by rw [z1]; exact q4, fun b hb => ?_, fun b hb => ?_⟩
  · have hne : b ≠ a := fun e => by have := (q6 a ha).1; omega
    rw [ho b hne, q5 b hb]
  · rw [k1] at hb
    by_cases e : b = a
    · subst e
      exact ⟨(q6 b hb).1, h1a⟩
    · exact ⟨(q6 b hb).1, (q6 b hb).2.kept (ho b e) (by rw [k1]) (by rw [n1]) (fun j t => v1 b j t e)⟩
end
section
/-! Ev: from a point of a method the machine comes to its end: the answer and the picture then are such that Q. -/
/-- a method: its name, code, locals, kind of answer -/
abbrev am_M : Type := MethodName × ByteArray × Nat × Option FieldType
abbrev am_Zt : Type := Option Value → am_H → Nat → Nat → List Frame → Array Value → State → State → Prop
def am_big : List Cond := lw_tbl.filter goodWord
theorem in_big {w : Cond} (i : Nat) (h : lw_tbl[i]? = some w) (g : goodWord w = true) : w ∈ am_big := List.mem_filter.mpr ⟨List.mem_of_getElem? h, g⟩
theorem am_big_good {w : Cond} (h : w ∈ am_big) : (w.onTables && w.keeps) = true ∨ ∃ ty, w = .arrayClass ty := good_of_word (List.mem_filter.mp h).2
def am_isN : Cond → Bool
  | .methodLinkNest _ _ _ _ => true
  | _ => false
def am_nest : List Cond := tables_1.filter am_isN
theorem in_nest {w : Cond} (i : Nat) (h : tables_1[i]? = some w) (g : am_isN w = true) : w ∈ am_nest := List.mem_filter.mpr ⟨List.mem_of_getElem? h, g⟩
def am_tys (w : am_W) : List (ClassId × FieldType) := [(w.2.1 11, .char), (w.2.1 12, .int), (w.2.1 13, .long), (w.2.1 14, .boolean), (w.2.1 15, .object "EvenFerry$State")]
def am_Kw (w : am_W) (s : State) : Prop := va_K w.1 vwCl (am_tys w) s ∧ (∀ x ∈ am_nest, va_Nw x s) ∧ w.2.2.2.2 s ∧ (∀ s U : State, s.WarmedH U.vm → w.2.2.2.2 s → w.2.2.2.2 U) ∧ ∀ (U : State) (g : JFrame) (mk : MethodId) (a : Array Value), w.2.2.2.2 U → w.2.2.2.2 (U.calling g mk a)
theorem am_Kw.warm {w : am_W} {s U : State} (hW : s.WarmedH U.vm) (h : am_Kw w s) : am_Kw w U := by
  refine ⟨va_K.moved hW.alike h.1, fun x hx => ?_, h.2.2.2.1 s U hW h.2.2.1, h.2.2.2⟩
  have h1 := h.2.1 x hx
  have h2 := (List.mem_filter.mp hx).2
  cases x <;> first | exact va_Nw.warmM hW h1 | exact absurd h2 (by simp [am_isN])
theorem am_Kw.calling {w : am_W} {U : State} {g : JFrame} {mk : MethodId} {a : Array Value} (h : am_Kw w U) : am_Kw w (U.calling g mk a) := by
  refine ⟨va_K.moved (u := U) (U := U.calling g mk a) (Vm.Alike.refl U.vm) h.1, fun x hx => ?_, h.2.2.2.2 U g mk a h.2.2.1, h.2.2.2⟩
  have h1 := h.2.1 x hx
  have h2 := (List.mem_filter.mp hx).2
  cases x <;> first | exact va_Nw.same (u := U) (U := U.calling g mk a) rfl rfl h1 | exact absurd h2 (by simp [am_isN])
/-- what holds in a method's body -/
def am_C (w : am_W) (u : am_M) (d : Nat) (p : Program) (l : Launch) (R : Room) (s : State) (m : MethodId) (args : Array Value) (meth : Method) (c : Code) (mc ms : Nat) : Prop :=
  p.tables.exec = Jvm.exec ∧ c.code = u.2.1 ∧ meth.sig.returnType = u.2.2.2 ∧ meth.locks = false ∧ c.maxLocals = u.2.2.1 ∧ s.vm.findClass u.1.cls = some m.cls ∧ meth.name = u.1.name ∧ (∀ x ∈ am_big, x.before args s = true) ∧ am_Kw w s ∧ d ≤ R.frames ∧ 100 * d ≤ R.locals ∧ mc ≤ R.cells ∧ ms ≤ R.slots ∧ l.stackTraces = false
def Ev (w : am_W) (Z : am_Zt) (u : am_M) (d : Nat) (pc : Nat) (lv : List (Nat × Value)) (st : List Value) (h : am_H) (Q : Option Value → am_H → Prop) : Prop :=
  ∃ (r : Option Value) (h' : am_H), Q r h' ∧ hZ h ≤ hZ h' ∧ hS h ≤ hS h' ∧ ∀ (p : Program) (l : Launch) (e : Env) (R : Room) (s : State) (m : MethodId) (args : Array Value) (below : List Frame) (meth : Method) (c : Code) (mc ms : Nat), am_C w u d p l R s m args meth c mc ms →
    ∀ (H : Heap) (locs : List Loc) (cells slots : Nat) (ls : Array Slot), am_R w h H → lv_has ls u.2.2.1 lv → (∀ q ∈ locs, w.2.2.1 ≤ q.base) → cells + (hZ h' - hZ h) = mc → slots + (hS h' - hS h) = ms →
      W p l e R s m args below meth c H locs cells slots (Z r h' mc ms below args s) (F0 m pc ls st)
/-- an ordinary method's end -/
def am_Z (w : am_W) : am_Zt := fun r h' mc ms below args s => MQ below (fun _ _ o t => o = .returned r ∧ am_R w h' t.heap) args s mc ms (fun q => w.2.2.1 ≤ q)
/-- a whole call of a method -/
def EvM (w : am_W) (u : am_M) (d : Nat) (As : List Value) (h : am_H) (Q : Option Value → am_H → Prop) : Prop := Ev w (am_Z w) u d 0 (lv_args 0 As) [] h Q
section EV
variable {w : am_W} {Z : am_Zt} {u : am_M} {d pc pc' : Nat} {lv lv' : List (Nat × Value)} {st st' : List Value} {h h1 : am_H} {Q Q' : Option Value → am_H → Prop}
theorem Ev.mono (k : Ev w Z u d pc lv st h Q) (hQ : ∀ r h', Q r h' → Q' r h') : Ev w Z u d pc lv st h Q' := by
  obtain ⟨r, h', q, z, s', g⟩ := k
  exact ⟨r, h', hQ _ _ q, z, s', g⟩
theorem Ev.go (f : ∀ {p : Program} {l : Launch} {e : Env} {R : Room} {s : State} {m : MethodId} {args : Array Value} {below : List Frame} {meth : Method} {c : Code} {mc ms : Nat}, am_C w u d p l R s m args meth c mc ms → ∀ {H : Heap} {locs : List Loc} {cells slots : Nat} {ls : Array Slot} {QQ : State → Prop}, am_R w h H → lv_has ls u.2.2.1 lv → (∀ ls', lv_has ls' u.2.2.1 lv' → W p l e R s m args below meth c H locs cells slots QQ (F0 m pc' ls' st')) → W p l e R s m args below meth c H locs cells slots QQ (F0 m pc ls st))
    (k : Ev w Z u d pc' lv' st' h Q) : Ev w Z u d pc lv st h Q := by
  obtain ⟨r, h', q, z, s', g⟩ := k
  exact ⟨r, h', q, z, s', fun p l e R s m args below meth c mc ms C H locs cells slots ls hR hl hf hc hs => f C hR hl (fun ls' hl' => g p l e R s m args below meth c mc ms C H locs cells slots ls' hR hl' hf hc hs)⟩
/-- the locals stay -/
theorem Ev.go1 (f : ∀ {p : Program} {l : Launch} {e : Env} {R : Room} {s : State} {m : MethodId} {args : Array Value} {below : List Frame} {meth : Method} {c : Code} {mc ms : Nat}, am_C w u d p l R s m args meth c mc ms → ∀ {H : Heap} {locs : List Loc} {cells slots : Nat} {ls : Array Slot} {QQ : State → Prop}, am_R w h H → lv_has ls u.2.2.1 lv → W p l e R s m args below meth c H locs cells slots QQ (F0 m pc' ls st') → W p l e R s m args below meth c H locs cells slots QQ (F0 m pc ls st))
    (k : Ev w Z u d pc' lv st' h Q) : Ev w Z u d pc lv st h Q := Ev.go (lv' := lv) (fun C _ _ _ _ _ _ hR hl kk => f C hR hl (kk _ hl)) k
/-- fewer locals are known -/
theorem Ev.sub (ks : List Nat) (e : lv_pick lv ks = lv') (k : Ev w Z u d pc lv' st h Q) : Ev w Z u d pc lv st h Q := Ev.go (fun C _ _ _ _ _ _ hR hl kk => kk _ (lv_sub hl ks e)) k
/-- something is written -/
theorem Ev.goH (z1 : hZ h1 = hZ h) (s1 : hS h1 = hS h) (f : ∀ {p : Program} {l : Launch} {e : Env} {R : Room} {s : State} {m : MethodId} {args : Array Value} {below : List Frame} {meth : Method} {c : Code} {mc ms : Nat}, am_C w u d p l R s m args meth c mc ms → ∀ {H : Heap} {locs : List Loc} {cells slots : Nat} {ls : Array Slot} {QQ : State → Prop}, am_R w h H → lv_has ls u.2.2.1 lv → (∀ (H1 : Heap) (L : List Loc), am_R w h1 H1 → (∀ q ∈ L, w.2.2.1 ≤ q.base) → W p l e R s m args below meth c H1 (locs ++ L) cells slots QQ (F0 m pc' ls st')) → W p l e R s m args below meth c H locs cells slots QQ (F0 m pc ls st))
    (k : Ev w Z u d pc' lv st' h1 Q) : Ev w Z u d pc lv st h Q := by
  obtain ⟨r, h', q, z, s', g⟩ := k
  refine ⟨r, h', q, by omega, by omega, fun p l e R s m args below meth c mc ms C H locs cells slots ls hR hl hf hc hs => f C hR hl (fun H1 L hR1 hL => g p l e R s m args below meth c mc ms C H1 (locs ++ L) cells slots ls hR1 hl (fun q hq => ?_) (by omega) (by omega))⟩
  rcases List.mem_append.mp hq with hq | hq
  · exact hf q hq
  · exact hL q hq
/-- something is made -/
theorem Ev.goN {n : Nat} (z1 : hZ h1 = hZ h + 1) (s1 : hS h1 = hS h + n) (f : ∀ {p : Program} {l : Launch} {e : Env} {R : Room} {s : State} {m : MethodId} {args : Array Value} {below : List Frame} {meth : Method} {c : Code} {mc ms : Nat}, am_C w u d p l R s m args meth c mc ms → ∀ {H : Heap} {locs : List Loc} {cells slots : Nat} {ls : Array Slot} {QQ : State → Prop}, cells + 1 ≤ R.cells → slots + n ≤ R.slots → am_R w h H → lv_has ls u.2.2.1 lv → (∀ (H1 : Heap), am_R w h1 H1 → W p l e R s m args below meth c H1 locs (cells + 1) (slots + n) QQ (F0 m pc' ls st')) → W p l e R s m args below meth c H locs cells slots QQ (F0 m pc ls st))
    (k : Ev w Z u d pc' lv st' h1 Q) : Ev w Z u d pc lv st h Q := by
  obtain ⟨r, h', q, z, s', g⟩ := k
  refine ⟨r, h', q, by omega, by omega, fun p l e R s m args below meth c mc ms C H locs cells slots ls hR hl hf hc hs => ?_⟩
  obtain ⟨-, -, -, -, -, -, -, -, -, -, -, hmc, hms, -⟩ := id C
  exact f C (by omega) (by omega) hR hl (fun H1 hR1 => g p l e R s m args below meth c mc ms C H1 locs (cells + 1) (slots + n) ls hR1 hl hf (by omega) (by omega))
end EV
end
section
/-! The instructions over the picture. -/
section INS
variable {w : am_W} {Z : am_Zt} {u : am_M} {d pc : Nat} {lv lv' : List (Nat × Value)} {st : List Value} {h : am_H} {Q : Option Value → am_H → Prop}
theorem Ev.iconst {n : Int} {v : Int32} (hd : decode u.2.1 pc = .ok (.iconst n, 1)) (hv : Int32.ofInt n = v) (k : Ev w Z u d (pc + 1) lv (.int v :: st) h Q) : Ev w Z u d pc lv st h Q := Ev.go1 (fun C _ _ _ _ _ _ _ _ k => lv_iconst C.1 C.2.1 hd hv k) k
theorem Ev.bipush {n : Int} {v : Int32} (hd : decode u.2.1 pc = .ok (.bipush n, 2)) (hv : (Int8.ofInt n).toInt32 = v) (k : Ev w Z u d (pc + 2) lv (.int v :: st) h Q) : Ev w Z u d pc lv st h Q := Ev.go1 (fun C _ _ _ _ _ _ _ _ k => lv_bipush C.1 C.2.1 hd hv k) k
theorem Ev.sipush {n : Int} {v : Int32} (hd : decode u.2.1 pc = .ok (.sipush n, 3)) (hv : (Int16.ofInt n).toInt32 = v) (k : Ev w Z u d (pc + 3) lv (.int v :: st) h Q) : Ev w Z u d pc lv st h Q := Ev.go1 (fun C _ _ _ _ _ _ _ _ k => lv_sipush C.1 C.2.1 hd hv k) k
theorem Ev.lconst {n : Fin 2} {v : Int64} (hd : decode u.2.1 pc = .ok (.lconst n, 1)) (hv : Int64.ofNat n = v) (k : Ev w Z u d (pc + 1) lv (.long v :: st) h Q) : Ev w Z u d pc lv st h Q := Ev.go1 (fun C _ _ _ _ _ _ _ _ k => lv_lconst C.1 C.2.1 hd hv k) k
theorem Ev.iload_n {q : Fin 4} {i : Nat} {x : Int32} (j : Nat) (hd : decode u.2.1 pc = .ok (.iload_n q, 1)) (hi : (q : Nat) = i) (hj : lv[j]? = some (i, .int x)) (k : Ev w Z u d (pc + 1) lv (.int x :: st) h Q) : Ev w Z u d pc lv st h Q := Ev.go1 (fun C _ _ _ _ _ _ _ hl k => lv_iload_n C.1 C.2.1 hd hi (lv_at hl j hj) k) k
theorem Ev.iload {i : Nat} {x : Int32} (j : Nat) (hd : decode u.2.1 pc = .ok (.iload i, 2)) (hj : lv[j]? = some (i, .int x)) (k : Ev w Z u d (pc + 2) lv (.int x :: st) h Q) : Ev w Z u d pc lv st h Q := Ev.go1 (fun C _ _ _ _ _ _ _ hl k => lv_iload C.1 C.2.1 hd (lv_at hl j hj) k) k
theorem Ev.istore_n {q : Fin 4} {i : Nat} {x : Int32} (hd : decode u.2.1 pc = .ok (.istore_n q, 1)) (hi : (q : Nat) = i) (hn : i < u.2.2.1) (hl : (i, Value.int x) :: lv.filter (fun q => !(q.1 == i) && !(q.1 + 1 == i && q.2.category == 2)) = lv') (k : Ev w Z u d (pc + 1) lv' st h Q) : Ev w Z u d pc lv (.int x :: st) h Q := Ev.go (fun C _ _ _ _ _ _ _ hl0 k => lv_istore_n C.1 C.2.1 hd hi hl0 hn hl k) k
theorem Ev.istore {i : Nat} {x : Int32} (hd : decode u.2.1 pc = .ok (.istore i, 2)) (hn : i < u.2.2.1) (hl : (i, Value.int x) :: lv.filter (fun q => !(q.1 == i) && !(q.1 + 1 == i && q.2.category == 2)) = lv') (k : Ev w Z u d (pc + 2) lv' st h Q) : Ev w Z u d pc lv (.int x :: st) h Q := Ev.go (fun C _ _ _ _ _ _ _ hl0 k => lv_istore C.1 C.2.1 hd hl0 hn hl k) k
theorem Ev.lload_n {q : Fin 4} {i : Nat} {x : Int64} (j : Nat) (hd : decode u.2.1 pc = .ok (.lload_n q, 1)) (hi : (q : Nat) = i) (hj : lv[j]? = some (i, .long x)) (k : Ev w Z u d (pc + 1) lv (.long x :: st) h Q) : Ev w Z u d pc lv st h Q := Ev.go1 (fun C _ _ _ _ _ _ _ hl k => lv_lload_n C.1 C.2.1 hd hi (lv_at hl j hj) k) k
theorem Ev.lload {i : Nat} {x : Int64} (j : Nat) (hd : decode u.2.1 pc = .ok (.lload i, 2)) (hj : lv[j]? = some (i, .long x)) (k : Ev w Z u d (pc + 2) lv (.long x :: st) h Q) : Ev w Z u d pc lv st h Q := Ev.go1 (fun C _ _ _ _ _ _ _ hl k => lv_lload C.1 C.2.1 hd (lv_at hl j hj) k) k
theorem Ev.lstore_n {q : Fin 4} {i : Nat} {x : Int64} (hd : decode u.2.1 pc = .ok (.lstore_n q, 1)) (hi : (q : Nat) = i) (hn : i + 1 < u.2.2.1) (hl : (i, Value.long x) :: lv.filter (fun q => !(q.1 == i) && (!(q.1 == i + 1) && !(q.1 + 1 == i && q.2.category == 2))) = lv') (k : Ev w Z u d (pc + 1) lv' st h Q) : Ev w Z u d pc lv (.long x :: st) h Q := Ev.go (fun C _ _ _ _ _ _ _ hl0 k => lv_lstore_n C.1 C.2.1 hd hi hl0 hn hl k) k
theorem Ev.lstore {i : Nat} {x : Int64} (hd : decode u.2.1 pc = .ok (.lstore i, 2)) (hn : i + 1 < u.2.2.1) (hl : (i, Value.long x) :: lv.filter (fun q => !(q.1 == i) && (!(q.1 == i + 1) && !(q.1 + 1 == i && q.2.category == 2))) = lv') (k : Ev w Z u d (pc + 2) lv' st h Q) : Ev w Z u d pc lv (.long x :: st) h Q := Ev.go (fun C _ _ _ _ _ _ _ hl0 k => lv_lstore C.1 C.2.1 hd hl0 hn hl k) k
theorem Ev.aload_n {q : Fin 4} {i : Nat} {x : Nat} (j : Nat) (hd : decode u.2.1 pc = .ok (.aload_n q, 1)) (hi : (q : Nat) = i) (hj : lv[j]? = some (i, .ref x)) (k : Ev w Z u d (pc + 1) lv (.ref x :: st) h Q) : Ev w Z u d pc lv st h Q := Ev.go1 (fun C _ _ _ _ _ _ _ hl k => lv_aload_n C.1 C.2.1 hd hi (lv_at hl j hj) k) k
theorem Ev.aload {i : Nat} {x : Nat} (j : Nat) (hd : decode u.2.1 pc = .ok (.aload i, 2)) (hj : lv[j]? = some (i, .ref x)) (k : Ev w Z u d (pc + 2) lv (.ref x :: st) h Q) : Ev w Z u d pc lv st h Q := Ev.go1 (fun C _ _ _ _ _ _ _ hl k => lv_aload C.1 C.2.1 hd (lv_at hl j hj) k) k
theorem Ev.astore_n {q : Fin 4} {i : Nat} {x : Nat} (hd : decode u.2.1 pc = .ok (.astore_n q, 1)) (hi : (q : Nat) = i) (hn : i < u.2.2.1) (hl : (i, Value.ref x) :: lv.filter (fun q => !(q.1 == i) && !(q.1 + 1 == i && q.2.category == 2)) = lv') (k : Ev w Z u d (pc + 1) lv' st h Q) : Ev w Z u d pc lv (.ref x :: st) h Q := Ev.go (fun C _ _ _ _ _ _ _ hl0 k => lv_astore_n C.1 C.2.1 hd hi hl0 hn hl k) k
theorem Ev.astore {i : Nat} {x : Nat} (hd : decode u.2.1 pc = .ok (.astore i, 2)) (hn : i < u.2.2.1) (hl : (i, Value.ref x) :: lv.filter (fun q => !(q.1 == i) && !(q.1 + 1 == i && q.2.category == 2)) = lv') (k : Ev w Z u d (pc + 2) lv' st h Q) : Ev w Z u d pc lv (.ref x :: st) h Q := Ev.go (fun C _ _ _ _ _ _ _ hl0 k => lv_astore C.1 C.2.1 hd hl0 hn hl k) k
theorem Ev.iinc {i : Nat} {n : Int} {x v : Int32} (j : Nat) (hd : decode u.2.1 pc = .ok (.iinc i n, 3)) (hj : lv[j]? = some (i, .int x)) (hv : x + Int32.ofInt n = v) (hn : i < u.2.2.1) (hl : (i, Value.int v) :: lv.filter (fun q => !(q.1 == i) && !(q.1 + 1 == i && q.2.category == 2)) = lv') (k : Ev w Z u d (pc + 3) lv' st h Q) : Ev w Z u d pc lv st h Q := Ev.go (fun C _ _ _ _ _ _ _ hl0 k => lv_iinc C.1 C.2.1 hd hl0 (k := j) hj hv hn hl k) k
theorem Ev.iadd {x y : Int32} (hd : decode u.2.1 pc = .ok (.iadd, 1)) (k : Ev w Z u d (pc + 1) lv (.int (x + y) :: st) h Q) : Ev w Z u d pc lv (.int y :: .int x :: st) h Q := Ev.go1 (fun C _ _ _ _ _ _ _ _ k => lv_iadd C.1 C.2.1 hd k) k
theorem Ev.isub {x y : Int32} (hd : decode u.2.1 pc = .ok (.isub, 1)) (k : Ev w Z u d (pc + 1) lv (.int (x - y) :: st) h Q) : Ev w Z u d pc lv (.int y :: .int x :: st) h Q := Ev.go1 (fun C _ _ _ _ _ _ _ _ k => lv_isub C.1 C.2.1 hd k) k
theorem Ev.imul {x y : Int32} (hd : decode u.2.1 pc = .ok (.imul, 1)) (k : Ev w Z u d (pc + 1) lv (.int (x * y) :: st) h Q) : Ev w Z u d pc lv (.int y :: .int x :: st) h Q := Ev.go1 (fun C _ _ _ _ _ _ _ _ k => lv_imul C.1 C.2.1 hd k) k
theorem Ev.iand {x y : Int32} (hd : decode u.2.1 pc = .ok (.iand, 1)) (k : Ev w Z u d (pc + 1) lv (.int (x &&& y) :: st) h Q) : Ev w Z u d pc lv (.int y :: .int x :: st) h Q := Ev.go1 (fun C _ _ _ _ _ _ _ _ k => lv_iand C.1 C.2.1 hd k) k
theorem Ev.ior {x y : Int32} (hd : decode u.2.1 pc = .ok (.ior, 1)) (k : Ev w Z u d (pc + 1) lv (.int (x ||| y) :: st) h Q) : Ev w Z u d pc lv (.int y :: .int x :: st) h Q := Ev.go1 (fun C _ _ _ _ _ _ _ _ k => lv_ior C.1 C.2.1 hd k) k
theorem Ev.ixor {x y : Int32} (hd : decode u.2.1 pc = .ok (.ixor, 1)) (k : Ev w Z u d (pc + 1) lv (.int (x ^^^ y) :: st) h Q) : Ev w Z u d pc lv (.int y :: .int x :: st) h Q := Ev.go1 (fun C _ _ _ _ _ _ _ _ k => lv_ixor C.1 C.2.1 hd k) k
theorem Ev.ishl {x y : Int32} (hd : decode u.2.1 pc = .ok (.ishl, 1)) (k : Ev w Z u d (pc + 1) lv (.int (x <<< (y &&& 31)) :: st) h Q) : Ev w Z u d pc lv (.int y :: .int x :: st) h Q := Ev.go1 (fun C _ _ _ _ _ _ _ _ k => lv_ishl C.1 C.2.1 hd k) k
theorem Ev.ishr {x y : Int32} (hd : decode u.2.1 pc = .ok (.ishr, 1)) (k : Ev w Z u d (pc + 1) lv (.int (x >>> (y &&& 31)) :: st) h Q) : Ev w Z u d pc lv (.int y :: .int x :: st) h Q := Ev.go1 (fun C _ _ _ _ _ _ _ _ k => lv_ishr C.1 C.2.1 hd k) k
theorem Ev.idiv {x y : Int32} (hd : decode u.2.1 pc = .ok (.idiv, 1)) (hne : ¬ y = 0) (k : Ev w Z u d (pc + 1) lv (.int (x / y) :: st) h Q) : Ev w Z u d pc lv (.int y :: .int x :: st) h Q := Ev.go1 (fun C _ _ _ _ _ _ _ _ k => lv_idiv C.1 C.2.1 hd hne k) k
theorem Ev.ineg {x : Int32} (hd : decode u.2.1 pc = .ok (.ineg, 1)) (k : Ev w Z u d (pc + 1) lv (.int (-x) :: st) h Q) : Ev w Z u d pc lv (.int x :: st) h Q := Ev.go1 (fun C _ _ _ _ _ _ _ _ k => lv_ineg C.1 C.2.1 hd k) k
theorem Ev.ladd {x y : Int64} (hd : decode u.2.1 pc = .ok (.ladd, 1)) (k : Ev w Z u d (pc + 1) lv (.long (x + y) :: st) h Q) : Ev w Z u d pc lv (.long y :: .long x :: st) h Q := Ev.go1 (fun C _ _ _ _ _ _ _ _ k => lv_ladd C.1 C.2.1 hd k) k
theorem Ev.lsub {x y : Int64} (hd : decode u.2.1 pc = .ok (.lsub, 1)) (k : Ev w Z u d (pc + 1) lv (.long (x - y) :: st) h Q) : Ev w Z u d pc lv (.long y :: .long x :: st) h Q := Ev.go1 (fun C _ _ _ _ _ _ _ _ k => lv_lsub C.1 C.2.1 hd k) k
theorem Ev.lmul {x y : Int64} (hd : decode u.2.1 pc = .ok (.lmul, 1)) (k : Ev w Z u d (pc + 1) lv (.long (x * y) :: st) h Q) : Ev w Z u d pc lv (.long y :: .long x :: st) h Q := Ev.go1 (fun C _ _ _ _ _ _ _ _ k => lv_lmul C.1 C.2.1 hd k) k
theorem Ev.land {x y : Int64} (hd : decode u.2.1 pc = .ok (.land, 1)) (k : Ev w Z u d (pc + 1) lv (.long (x &&& y) :: st) h Q) : Ev w Z u d pc lv (.long y :: .long x :: st) h Q := Ev.go1 (fun C _ _ _ _ _ _ _ _ k => lv_land C.1 C.2.1 hd k) k
theorem Ev.lor {x y : Int64} (hd : decode u.2.1 pc = .ok (.lor, 1)) (k : Ev w Z u d (pc + 1) lv (.long (x ||| y) :: st) h Q) : Ev w Z u d pc lv (.long y :: .long x :: st) h Q := Ev.go1 (fun C _ _ _ _ _ _ _ _ k => lv_lor C.1 C.2.1 hd k) k
theorem Ev.ldiv {x y : Int64} (hd : decode u.2.1 pc = .ok (.ldiv, 1)) (hne : ¬ y = 0) (k : Ev w Z u d (pc + 1) lv (.long (x / y) :: st) h Q) : Ev w Z u d pc lv (.long y :: .long x :: st) h Q := Ev.go1 (fun C _ _ _ _ _ _ _ _ k => lv_ldiv C.1 C.2.1 hd hne k) k
theorem Ev.lrem {x y : Int64} (hd : decode u.2.1 pc = .ok (.lrem, 1)) (hne : ¬ y = 0) (k : Ev w Z u d (pc + 1) lv (.long (x - x / y * y) :: st) h Q) : Ev w Z u d pc lv (.long y :: .long x :: st) h Q := Ev.go1 (fun C _ _ _ _ _ _ _ _ k => lv_lrem C.1 C.2.1 hd hne k) k
theorem Ev.lshl {x : Int64} {y : Int32} (hd : decode u.2.1 pc = .ok (.lshl, 1)) (k : Ev w Z u d (pc + 1) lv (.long (x <<< (y.toInt64 &&& 63)) :: st) h Q) : Ev w Z u d pc lv (.int y :: .long x :: st) h Q := Ev.go1 (fun C _ _ _ _ _ _ _ _ k => lv_lshl C.1 C.2.1 hd rfl k) k
theorem Ev.lushr {x : Int64} {y : Int32} (hd : decode u.2.1 pc = .ok (.lushr, 1)) (k : Ev w Z u d (pc + 1) lv (.long ((x.toUInt64 >>> (y.toInt64.toUInt64 &&& Int64.toUInt64 63)).toInt64) :: st) h Q) : Ev w Z u d pc lv (.int y :: .long x :: st) h Q := Ev.go1 (fun C _ _ _ _ _ _ _ _ k => lv_lushr C.1 C.2.1 hd rfl k) k
theorem Ev.i2l {x : Int32} (hd : decode u.2.1 pc = .ok (.i2l, 1)) (k : Ev w Z u d (pc + 1) lv (.long x.toInt64 :: st) h Q) : Ev w Z u d pc lv (.int x :: st) h Q := Ev.go1 (fun C _ _ _ _ _ _ _ _ k => lv_i2l C.1 C.2.1 hd rfl k) k
theorem Ev.l2i {x : Int64} (hd : decode u.2.1 pc = .ok (.l2i, 1)) (k : Ev w Z u d (pc + 1) lv (.int x.toInt32 :: st) h Q) : Ev w Z u d pc lv (.long x :: st) h Q := Ev.go1 (fun C _ _ _ _ _ _ _ _ k => lv_l2i C.1 C.2.1 hd rfl k) k
theorem Ev.i2c {x : Int32} (hd : decode u.2.1 pc = .ok (.i2c, 1)) (k : Ev w Z u d (pc + 1) lv (.int ((x.toUInt32 % 65536).toInt32) :: st) h Q) : Ev w Z u d pc lv (.int x :: st) h Q := Ev.go1 (fun C _ _ _ _ _ _ _ _ k => lv_i2c C.1 C.2.1 hd rfl k) k
theorem Ev.lcmp {x y : Int64} (hd : decode u.2.1 pc = .ok (.lcmp, 1)) (k : Ev w Z u d (pc + 1) lv (.int (lg_cmp x y) :: st) h Q) : Ev w Z u d pc lv (.long y :: .long x :: st) h Q := Ev.go1 (fun C _ _ _ _ _ _ _ _ k => W.lcmp C.1 C.2.1 hd k) k
theorem Ev.dup {va : Value} (hd : decode u.2.1 pc = .ok (.dup, 1)) (ha : va.category = 1) (k : Ev w Z u d (pc + 1) lv (va :: va :: st) h Q) : Ev w Z u d pc lv (va :: st) h Q := Ev.go1 (fun C _ _ _ _ _ _ _ _ k => lv_dup C.1 C.2.1 hd ha k) k
theorem Ev.dup2 {va vb : Value} (hd : decode u.2.1 pc = .ok (.dup2, 1)) (ha : va.category = 1) (hb : vb.category = 1) (k : Ev w Z u d (pc + 1) lv (va :: vb :: va :: vb :: st) h Q) : Ev w Z u d pc lv (va :: vb :: st) h Q := Ev.go1 (fun C _ _ _ _ _ _ _ _ k => lv_dup2_11 C.1 C.2.1 hd ha hb k) k
theorem Ev.goto {off : Int} {tgt : Nat} (hd : decode u.2.1 pc = .ok (.goto off, 3)) (ht : (pc : Int) + off = (tgt : Int)) (k : Ev w Z u d tgt lv st h Q) : Ev w Z u d pc lv st h Q := Ev.go1 (fun C _ _ _ _ _ _ _ _ k => lv_goto C.1 C.2.1 hd ht k) k
theorem Ev.if_eq {x : Int32} {off : Int} {tgt : Nat} (hd : decode u.2.1 pc = .ok (.ifCond .eq off, 3)) (ht : (pc : Int) + off = (tgt : Int)) (kt : x = 0 → Ev w Z u d tgt lv st h Q) (kf : ¬ (x = 0) → Ev w Z u d (pc + 3) lv st h Q) : Ev w Z u d pc lv (.int x :: st) h Q := by
  by_cases hx : x = 0
  · exact Ev.go1 (fun C _ _ _ _ _ _ _ _ k => lv_if_eq C.1 C.2.1 hd ht (fun _ => k) (fun n => absurd hx n)) (kt hx)
  · exact Ev.go1 (fun C _ _ _ _ _ _ _ _ k => lv_if_eq C.1 C.2.1 hd ht (fun n => absurd n hx) (fun _ => k)) (kf hx)
theorem Ev.icmp_eq {x y : Int32} {off : Int} {tgt : Nat} (hd : decode u.2.1 pc = .ok (.if_icmp .eq off, 3)) (ht : (pc : Int) + off = (tgt : Int)) (kt : x = y → Ev w Z u d tgt lv st h Q) (kf : ¬ (x = y) → Ev w Z u d (pc + 3) lv st h Q) : Ev w Z u d pc lv (.int y :: .int x :: st) h Q := by
  by_cases hx : x = y
  · exact Ev.go1 (fun C _ _ _ _ _ _ _ _ k => lv_icmp_eq C.1 C.2.1 hd ht (fun _ => k) (fun n => absurd hx n)) (kt hx)
  · exact Ev.go1 (fun C _ _ _ _ _ _ _ _ k => lv_icmp_eq C.1 C.2.1 hd ht (fun n => absurd n hx) (fun _ => k)) (kf hx)
theorem Ev.if_ne {x : Int32} {off : Int} {tgt : Nat} (hd : decode u.2.1 pc = .ok (.ifCond .ne off, 3)) (ht : (pc : Int) + off = (tgt : Int)) (kt : ¬ x = 0 → Ev w Z u d tgt lv st h Q) (kf : x = 0 → Ev w Z u d (pc + 3) lv st h Q) : Ev w Z u d pc lv (.int x :: st) h Q := by
  by_cases hx : x = 0
  · exact Ev.go1 (fun C _ _ _ _ _ _ _ _ k => lv_if_ne C.1 C.2.1 hd ht (fun n => absurd hx n) (fun _ => k)) (kf hx)
  · exact Ev.go1 (fun C _ _ _ _ _ _ _ _ k => lv_if_ne C.1 C.2.1 hd ht (fun _ => k) (fun n => absurd n hx)) (kt hx)
theorem Ev.icmp_ne {x y : Int32} {off : Int} {tgt : Nat} (hd : decode u.2.1 pc = .ok (.if_icmp .ne off, 3)) (ht : (pc : Int) + off = (tgt : Int)) (kt : ¬ x = y → Ev w Z u d tgt lv st h Q) (kf : x = y → Ev w Z u d (pc + 3) lv st h Q) : Ev w Z u d pc lv (.int y :: .int x :: st) h Q := by
  by_cases hx : x = y
  · exact Ev.go1 (fun C _ _ _ _ _ _ _ _ k => lv_icmp_ne C.1 C.2.1 hd ht (fun n => absurd hx n) (fun _ => k)) (kf hx)
  · exact Ev.go1 (fun C _ _ _ _ _ _ _ _ k => lv_icmp_ne C.1 C.2.1 hd ht (fun _ => k) (fun n => absurd n hx)) (kt hx)
theorem Ev.if_lt {x : Int32} {off : Int} {tgt : Nat} (hd : decode u.2.1 pc = .ok (.ifCond .lt off, 3)) (ht : (pc : Int) + off = (tgt : Int)) (kt : x < 0 → Ev w Z u d tgt lv st h Q) (kf : ¬ (x < 0) → Ev w Z u d (pc + 3) lv st h Q) : Ev w Z u d pc lv (.int x :: st) h Q := by
  by_cases hx : x < 0
  · exact Ev.go1 (fun C _ _ _ _ _ _ _ _ k => lv_if_lt C.1 C.2.1 hd ht (fun _ => k) (fun n => absurd hx n)) (kt hx)
  · exact Ev.go1 (fun C _ _ _ _ _ _ _ _ k => lv_if_lt C.1 C.2.1 hd ht (fun n => absurd n hx) (fun _ => k)) (kf hx)
theorem Ev.icmp_lt {x y : Int32} {off : Int} {tgt : Nat} (hd : decode u.2.1 pc = .ok (.if_icmp .lt off, 3)) (ht : (pc : Int) + off = (tgt : Int)) (kt : x < y → Ev w Z u d tgt lv st h Q) (kf : ¬ (x < y) → Ev w Z u d (pc + 3) lv st h Q) : Ev w Z u d pc lv (.int y :: .int x :: st) h Q := by
  by_cases hx : x < y
  · exact Ev.go1 (fun C _ _ _ _ _ _ _ _ k => lv_icmp_lt C.1 C.2.1 hd ht (fun _ => k) (fun n => absurd hx n)) (kt hx)
  · exact Ev.go1 (fun C _ _ _ _ _ _ _ _ k => lv_icmp_lt C.1 C.2.1 hd ht (fun n => absurd n hx) (fun _ => k)) (kf hx)
theorem Ev.if_ge {x : Int32} {off : Int} {tgt : Nat} (hd : decode u.2.1 pc = .ok (.ifCond .ge off, 3)) (ht : (pc : Int) + off = (tgt : Int)) (kt : 0 ≤ x → Ev w Z u d tgt lv st h Q) (kf : ¬ (0 ≤ x) → Ev w Z u d (pc + 3) lv st h Q) : Ev w Z u d pc lv (.int x :: st) h Q := by
  by_cases hx : 0 ≤ x
  · exact Ev.go1 (fun C _ _ _ _ _ _ _ _ k => lv_if_ge C.1 C.2.1 hd ht (fun _ => k) (fun n => absurd hx n)) (kt hx)
  · exact Ev.go1 (fun C _ _ _ _ _ _ _ _ k => lv_if_ge C.1 C.2.1 hd ht (fun n => absurd n hx) (fun _ => k)) (kf hx)
theorem Ev.icmp_ge {x y : Int32} {off : Int} {tgt : Nat} (hd : decode u.2.1 pc = .ok (.if_icmp .ge off, 3)) (ht : (pc : Int) + off = (tgt : Int)) (kt : y ≤ x → Ev w Z u d tgt lv st h Q) (kf : ¬ (y ≤ x) → Ev w Z u d (pc + 3) lv st h Q) : Ev w Z u d pc lv (.int y :: .int x :: st) h Q := by
  by_cases hx : y ≤ x
  · exact Ev.go1 (fun C _ _ _ _ _ _ _ _ k => lv_icmp_ge C.1 C.2.1 hd ht (fun _ => k) (fun n => absurd hx n)) (kt hx)
  · exact Ev.go1 (fun C _ _ _ _ _ _ _ _ k => lv_icmp_ge C.1 C.2.1 hd ht (fun n => absurd n hx) (fun _ => k)) (kf hx)
theorem Ev.if_gt {x : Int32} {off : Int} {tgt : Nat} (hd : decode u.2.1 pc = .ok (.ifCond .gt off, 3)) (ht : (pc : Int) + off = (tgt : Int)) (kt : 0 < x → Ev w Z u d tgt lv st h Q) (kf : ¬ (0 < x) → Ev w Z u d (pc + 3) lv st h Q) : Ev w Z u d pc lv (.int x :: st) h Q := by
  by_cases hx : 0 < x
  · exact Ev.go1 (fun C _ _ _ _ _ _ _ _ k => lv_if_gt C.1 C.2.1 hd ht (fun _ => k) (fun n => absurd hx n)) (kt hx)
  · exact Ev.go1 (fun C _ _ _ _ _ _ _ _ k => lv_if_gt C.1 C.2.1 hd ht (fun n => absurd n hx) (fun _ => k)) (kf hx)
theorem Ev.icmp_gt {x y : Int32} {off : Int} {tgt : Nat} (hd : decode u.2.1 pc = .ok (.if_icmp .gt off, 3)) (ht : (pc : Int) + off = (tgt : Int)) (kt : y < x → Ev w Z u d tgt lv st h Q) (kf : ¬ (y < x) → Ev w Z u d (pc + 3) lv st h Q) : Ev w Z u d pc lv (.int y :: .int x :: st) h Q := by
  by_cases hx : y < x
  · exact Ev.go1 (fun C _ _ _ _ _ _ _ _ k => lv_icmp_gt C.1 C.2.1 hd ht (fun _ => k) (fun n => absurd hx n)) (kt hx)
  · exact Ev.go1 (fun C _ _ _ _ _ _ _ _ k => lv_icmp_gt C.1 C.2.1 hd ht (fun n => absurd n hx) (fun _ => k)) (kf hx)
theorem Ev.if_le {x : Int32} {off : Int} {tgt : Nat} (hd : decode u.2.1 pc = .ok (.ifCond .le off, 3)) (ht : (pc : Int) + off = (tgt : Int)) (kt : x ≤ 0 → Ev w Z u d tgt lv st h Q) (kf : ¬ (x ≤ 0) → Ev w Z u d (pc + 3) lv st h Q) : Ev w Z u d pc lv (.int x :: st) h Q := by
  by_cases hx : x ≤ 0
  · exact Ev.go1 (fun C _ _ _ _ _ _ _ _ k => lv_if_le C.1 C.2.1 hd ht (fun _ => k) (fun n => absurd hx n)) (kt hx)
  · exact Ev.go1 (fun C _ _ _ _ _ _ _ _ k => lv_if_le C.1 C.2.1 hd ht (fun n => absurd n hx) (fun _ => k)) (kf hx)
theorem Ev.icmp_le {x y : Int32} {off : Int} {tgt : Nat} (hd : decode u.2.1 pc = .ok (.if_icmp .le off, 3)) (ht : (pc : Int) + off = (tgt : Int)) (kt : x ≤ y → Ev w Z u d tgt lv st h Q) (kf : ¬ (x ≤ y) → Ev w Z u d (pc + 3) lv st h Q) : Ev w Z u d pc lv (.int y :: .int x :: st) h Q := by
  by_cases hx : x ≤ y
  · exact Ev.go1 (fun C _ _ _ _ _ _ _ _ k => lv_icmp_le C.1 C.2.1 hd ht (fun _ => k) (fun n => absurd hx n)) (kt hx)
  · exact Ev.go1 (fun C _ _ _ _ _ _ _ _ k => lv_icmp_le C.1 C.2.1 hd ht (fun n => absurd n hx) (fun _ => k)) (kf hx)
theorem Ev.tableOut {dflt lo hi : Int} {offs : Array Int} {len tgt : Nat} {x : Int32} (hd : decode u.2.1 pc = .ok (.tableswitch dflt lo hi offs, len)) (hx : x.toInt < lo ∨ hi < x.toInt) (ht : (pc : Int) + dflt = (tgt : Int)) (k : Ev w Z u d tgt lv st h Q) : Ev w Z u d pc lv (.int x :: st) h Q := Ev.go1 (fun C _ _ _ _ _ _ _ _ k => lv_tableOut C.1 C.2.1 hd hx ht k) k
theorem Ev.tableIn {dflt lo hi : Int} {offs : Array Int} {len tgt : Nat} {x : Int32} {off : Int} (hd : decode u.2.1 pc = .ok (.tableswitch dflt lo hi offs, len)) (h1 : ¬ x.toInt < lo) (h2 : ¬ hi < x.toInt) (ho : offs[(x.toInt - lo).toNat]? = some off) (ht : (pc : Int) + off = (tgt : Int)) (k : Ev w Z u d tgt lv st h Q) : Ev w Z u d pc lv (.int x :: st) h Q := Ev.go1 (fun C _ _ _ _ _ _ _ _ k => lv_tableIn C.1 C.2.1 hd h1 h2 ho ht k) k
theorem Ev.lookup {dflt : Int} {ps : Array (Int × Int)} {len tgt : Nat} {x : Int32} {off : Int} (hd : decode u.2.1 pc = .ok (.lookupswitch dflt ps, len)) (hp : (ps.toList.zip (ps.toList.drop 1)).all (fun (a, next) => a.1 < next.1) = true) (ho : Op.lookupswitch.offset ps.toList dflt x.toInt = off) (ht : (pc : Int) + off = (tgt : Int)) (k : Ev w Z u d tgt lv st h Q) : Ev w Z u d pc lv (.int x :: st) h Q := Ev.go1 (fun C _ _ _ _ _ _ _ _ k => lv_lookup C.1 C.2.1 hd hp ho ht k) k
theorem Ev.ldcw {i : Nat} {v : Int32} (hd : decode u.2.1 pc = .ok (.ldc_w i, 3)) (hw : Cond.constant u.1.cls i v ∈ am_big) (k : Ev w Z u d (pc + 3) lv (.int v :: st) h Q) : Ev w Z u d pc lv st h Q := Ev.go1 (fun C _ _ _ _ _ _ _ _ k => lv_ldcw C.1 C.2.1 C.2.2.2.2.2.1 (C.2.2.2.2.2.2.2.1 _ hw) hd k) k
theorem Ev.ldc2 {i : Nat} {v : Int64} (hd : decode u.2.1 pc = .ok (.ldc2_w i, 3)) (hw : Cond.constantLong u.1.cls i v ∈ am_big) (k : Ev w Z u d (pc + 3) lv (.long v :: st) h Q) : Ev w Z u d pc lv st h Q := Ev.go1 (fun C _ _ _ _ _ _ _ _ k => lv_ldc2 C.1 C.2.1 C.2.2.2.2.2.1 (C.2.2.2.2.2.2.2.1 _ hw) hd k) k
end INS
end
section
/-! Fields, arrays, what is made, and ends, over the picture. -/
def am_cn (ci : Nat) : String := if ci = 0 then RX0 else if ci = 1 then RX1 else if ci = 2 then RX2 else if ci = 3 then RX3 else if ci = 4 then RX4 else if ci = 5 then RX5 else if ci = 6 then RX6 else if ci = 7 then RX7 else if ci = 8 then RX8 else if ci = 9 then RX9 else RX10
def am_ct (ci : Nat) : u_T := if ci = 0 then TX0 else if ci = 1 then TX1 else if ci = 2 then TX2 else if ci = 3 then TX3 else if ci = 4 then TX4 else if ci = 5 then TX5 else if ci = 6 then TX6 else if ci = 7 then TX7 else if ci = 8 then TX8 else if ci = 9 then TX9 else TX10
theorem am_vw (ci : Nat) (h : ci < 11) : vwCl[ci]? = some (am_cn ci, am_ct ci, am_n ci) := by
  match ci, h with
  | 0, _ => rfl
  | 1, _ => rfl
  | 2, _ => rfl
  | 3, _ => rfl
  | 4, _ => rfl
  | 5, _ => rfl
  | 6, _ => rfl
  | 7, _ => rfl
  | 8, _ => rfl
  | 9, _ => rfl
  | 10, _ => rfl
  | n + 11, h => exact absurd h (by omega)
set_option maxRecDepth 100000 in
theorem am_inb0 : ∀ x ∈ u_ws RX0 TX0 6, x ∈ am_big := by decide +kernel
set_option maxRecDepth 100000 in
theorem am_inb1 : ∀ x ∈ u_ws RX1 TX1 7, x ∈ am_big := by decide +kernel
set_option maxRecDepth 100000 in
theorem am_inb2 : ∀ x ∈ u_ws RX2 TX2 6, x ∈ am_big := by decide +kernel
set_option maxRecDepth 100000 in
theorem am_inb3 : ∀ x ∈ u_ws RX3 TX3 18, x ∈ am_big := by decide +kernel
set_option maxRecDepth 100000 in
theorem am_inb4 : ∀ x ∈ u_ws RX4 TX4 10, x ∈ am_big := by decide +kernel
set_option maxRecDepth 100000 in
theorem am_inb5 : ∀ x ∈ u_ws RX5 TX5 8, x ∈ am_big := by decide +kernel
set_option maxRecDepth 100000 in
theorem am_inb6 : ∀ x ∈ u_ws RX6 TX6 15, x ∈ am_big := by decide +kernel
set_option maxRecDepth 100000 in
theorem am_inb7 : ∀ x ∈ u_ws RX7 TX7 5, x ∈ am_big := by decide +kernel
set_option maxRecDepth 100000 in
theorem am_inb8 : ∀ x ∈ u_ws RX8 TX8 5, x ∈ am_big := by decide +kernel
set_option maxRecDepth 100000 in
theorem am_inb9 : ∀ x ∈ u_ws RX9 TX9 9, x ∈ am_big := by decide +kernel
set_option maxRecDepth 100000 in
theorem am_inb10 : ∀ x ∈ u_ws RX10 TX10 55, x ∈ am_big := by decide +kernel
theorem am_inb (ci : Nat) (h : ci < 11) : ∀ x ∈ u_ws (am_cn ci) (am_ct ci) (am_n ci), x ∈ am_big := by
  match ci, h with
  | 0, _ => exact am_inb0
  | 1, _ => exact am_inb1
  | 2, _ => exact am_inb2
  | 3, _ => exact am_inb3
  | 4, _ => exact am_inb4
  | 5, _ => exact am_inb5
  | 6, _ => exact am_inb6
  | 7, _ => exact am_inb7
  | 8, _ => exact am_inb8
  | 9, _ => exact am_inb9
  | 10, _ => exact am_inb10
  | n + 11, h => exact absurd h (by omega)
theorem am_nm (ci : Nat) (h : ci < 11) : ∀ a, a < am_n ci → ∀ b, b < am_n ci → a ≠ b → (am_ct ci a).2.1 ≠ (am_ct ci b).2.1 := by
  match ci, h with
  | 0, _ => exact nmX0
  | 1, _ => exact nmX1
  | 2, _ => exact nmX2
  | 3, _ => exact nmX3
  | 4, _ => exact nmX4
  | 5, _ => exact nmX5
  | 6, _ => exact nmX6
  | 7, _ => exact nmX7
  | 8, _ => exact nmX8
  | 9, _ => exact nmX9
  | 10, _ => exact nmX10
  | n + 11, h => exact absurd h (by omega)
theorem am_tyok (ci : Nat) (h : ci < 11) : ∀ k, k < am_n ci → parseFieldDescriptor (am_ct ci k).2.2.1 = some (am_tyf ci k) := by
  match ci, h with
  | 0, _ => exact tyX0_ok
  | 1, _ => exact tyX1_ok
  | 2, _ => exact tyX2_ok
  | 3, _ => exact tyX3_ok
  | 4, _ => exact tyX4_ok
  | 5, _ => exact tyX5_ok
  | 6, _ => exact tyX6_ok
  | 7, _ => exact tyX7_ok
  | 8, _ => exact tyX8_ok
  | 9, _ => exact tyX9_ok
  | 10, _ => exact tyX10_ok
  | n + 11, h => exact absurd h (by omega)
def am_zero (t : Nat) : Value := if t = 0 then .int 0 else if t = 1 then .long 0 else .null
theorem am_dflt : ∀ ci, ci < 11 → ∀ k, k < am_n ci → defaultValue (am_tyf ci k) = am_zero (am_ty ci k) := by decide +kernel
theorem am_R.obj {w : am_W} {h : am_H} {H : Heap} (q : am_R w h H) {a ci : Nat} (ha : hK h a = ci) (hc : ci < 11) : t_OB a (w.1.1 ci) (am_n ci) (w.1.2 ci) H (fun k => am_val h a k (am_ty ci k)) := by
  have q6 := (q.2.2.2.2.2 a (by omega)).2
  unfold am_at at q6
  rw [ha, if_pos hc] at q6
  exact q6
theorem am_R.arr {w : am_W} {h : am_H} {H : Heap} (q : am_R w h H) {a k : Nat} (ha : hK h a = k) (hc : 11 ≤ k) (hc2 : k < 16) : H[a]? = some (arrV (w.2.1 k) (hN h a) (fun j => am_val h a j (am_et k))) := by
  have q6 := (q.2.2.2.2.2 a (by omega)).2
  unfold am_at at q6
  rw [ha, if_neg (by omega)] at q6
  exact q6
theorem am_Kw.arr {w : am_W} {s : State} (q : am_Kw w s) {k : Nat} (hc : 11 ≤ k) (hc2 : k < 16) : ArrOfT s (w.2.1 k) (am_aty k) ∧ va_RA s (w.2.1 k) (am_aty k) := by
  rcases (show k = 11 ∨ k = 12 ∨ k = 13 ∨ k = 14 ∨ k = 15 by omega) with rfl | rfl | rfl | rfl | rfl
  · exact q.1.2 0 _ rfl
  · exact q.1.2 1 _ rfl
  · exact q.1.2 2 _ rfl
  · exact q.1.2 3 _ rfl
  · exact q.1.2 4 _ rfl
section MEM
variable {w : am_W} {Z : am_Zt} {u : am_M} {d pc : Nat} {lv : List (Nat × Value)} {st : List Value} {h : am_H} {Q : Option Value → am_H → Prop}
theorem Ev.getf {ci k i a : Nat} (hd : decode u.2.1 pc = .ok (.getfield i, 3)) (hc : ci < 11) (hk : k < am_n ci) (hw : Cond.fieldLink u.1.cls i (am_ct ci k).1 (am_ct ci k).2.1 (am_ct ci k).2.2.1 ∈ am_big) (ha : hK h a = ci) (kk : Ev w Z u d (pc + 3) lv (am_val h a k (am_ty ci k) :: st) h Q) : Ev w Z u d pc lv (.ref a :: st) h Q := by
  refine Ev.go1 (fun C _ _ _ _ _ _ hR _ kk => ?_) kk
  obtain ⟨hx, hb, -, -, -, hown, -, hts, hKw, -⟩ := id C
  obtain ⟨cell, q1, q2, q3, q4⟩ := hR.obj ha hc
  obtain ⟨hS, hfc, kC, hkC, hkind⟩ := hKw.1.1 ci _ (am_vw ci hc)
  obtain ⟨cf, kf, fi, f, hi, hsl⟩ := hS k hk
  refine W.getf hx hb hown (hts _ hw) hi (u_facts hfc hkC (u_lays hts (am_inb ci hc) hk) hi).1 q1 (by rw [q3]; exact fun h => by cases h) (v := am_val h a k (am_ty ci k)) ?_ rfl rfl hd kk
  rw [hsl]
  exact q4 k hk
theorem Ev.getI {ci k i a : Nat} (hd : decode u.2.1 pc = .ok (.getfield i, 3)) (hc : ci < 11) (hk : k < am_n ci) (ht : am_ty ci k = 0) (hw : Cond.fieldLink u.1.cls i (am_ct ci k).1 (am_ct ci k).2.1 (am_ct ci k).2.2.1 ∈ am_big) (ha : hK h a = ci) (kk : Ev w Z u d (pc + 3) lv (.int (hI h a k) :: st) h Q) : Ev w Z u d pc lv (.ref a :: st) h Q := by
  refine Ev.getf hd hc hk hw ha ?_
  rw [ht]
  exact kk
theorem Ev.getJ {ci k i a : Nat} (hd : decode u.2.1 pc = .ok (.getfield i, 3)) (hc : ci < 11) (hk : k < am_n ci) (ht : am_ty ci k = 1) (hw : Cond.fieldLink u.1.cls i (am_ct ci k).1 (am_ct ci k).2.1 (am_ct ci k).2.2.1 ∈ am_big) (ha : hK h a = ci) (kk : Ev w Z u d (pc + 3) lv (.long (hJ h a k) :: st) h Q) : Ev w Z u d pc lv (.ref a :: st) h Q := by
  refine Ev.getf hd hc hk hw ha ?_
  rw [ht]
  exact kk
theorem Ev.getR {ci k i a : Nat} (hd : decode u.2.1 pc = .ok (.getfield i, 3)) (hc : ci < 11) (hk : k < am_n ci) (ht : am_ty ci k = 2) (hw : Cond.fieldLink u.1.cls i (am_ct ci k).1 (am_ct ci k).2.1 (am_ct ci k).2.2.1 ∈ am_big) (ha : hK h a = ci) (hz : hR h a k ≠ 0) (kk : Ev w Z u d (pc + 3) lv (.ref (hR h a k) :: st) h Q) : Ev w Z u d pc lv (.ref a :: st) h Q := by
  refine Ev.getf hd hc hk hw ha ?_
  rw [ht]
  show Ev w Z u d (pc + 3) lv (am_o (hR h a k) :: st) h Q
  rw [am_o_ref hz]
  exact kk
theorem am_R.putO {w : am_W} {h : am_H} {H H1 : Heap} (q : am_R w h H) {a ci k : Nat} (ha : hK h a = ci) (hc : ci < 11) {v : Value} (hi : am_is v (am_ty ci k)) {cell : Cell} (q2 : cell.cls = w.1.1 ci) (q3 : cell.vm = .none) (q4 : ∀ j, j < am_n ci → cell.slots[w.1.2 ci j]? = some (am_val h a j (am_ty ci j))) (hap : ∀ x y, x < am_n ci → y < am_n ci → x ≠ y → w.1.2 ci x ≠ w.1.2 ci y) (hk : k < am_n ci)
    (e1 : H1[a]? = some (cell.setSlot (w.1.2 ci k) v)) (e2 : H1.size = H.size) (e3 : ∀ b : Nat, b ≠ a → H1[b]? = H[b]?) : am_R w (am_set h a k v) H1 := by
  refine q.put e2 e3 (by omega) (am_set_Z _ _ _ _) (am_set_K _ _ _ _) (am_set_N _ _ _ _) (fun b j t hb => am_set_ne t (Or.inl hb)) ?_
  unfold am_at
  rw [am_set_K, ha, if_pos hc]
  refine t_OB.to (V := updV (fun k => am_val h a k (am_ty ci k)) k v) ⟨_, e1, q2, q3, t_set q4 hap hk v⟩ (fun j _ => ?_)
  by_cases hj : j = k
  · subst hj
    rw [am_set_eq hi]
    simp [updV]
  · rw [am_set_ne _ (Or.inr hj)]
    simp [updV, hj]
theorem Ev.put {ci k i a : Nat} {v : Value} (hd : decode u.2.1 pc = .ok (.putfield i, 3)) (hc : ci < 11) (hk : k < am_n ci) (hw : Cond.fieldLink u.1.cls i (am_ct ci k).1 (am_ct ci k).2.1 (am_ct ci k).2.2.1 ∈ am_big) (hfin : (am_ct ci k).2.2.2 = false) (hn : narrow (am_tyf ci k) v = v) (hfit : fits (am_tyf ci k) v = true) (hi : am_is v (am_ty ci k)) (ha : hK h a = ci) (kk : Ev w Z u d (pc + 3) lv st (am_set h a k v) Q) : Ev w Z u d pc lv (v :: .ref a :: st) h Q := by
  refine Ev.goH (am_set_Z _ _ _ _) (am_set_S _ _ _ _) (fun C _ _ _ _ _ _ hR _ kk => ?_) kk
  obtain ⟨hx, hb, -, -, -, hown, -, hts, hKw, -⟩ := id C
  obtain ⟨cell, q1, q2, q3, q4⟩ := hR.obj ha hc
  have hap := va_apart (own := u.1.cls) hts (am_inb ci hc) (am_tyf ci) (am_tyok ci hc) (am_nm ci hc) hKw.1 (am_vw ci hc)
  obtain ⟨hS, hfc, kC, hkC, hkind⟩ := hKw.1.1 ci _ (am_vw ci hc)
  obtain ⟨cf, kf, fi, f, hi', hsl⟩ := hS k hk
  have hlay := hts _ (am_inb ci hc _ (u_in_lay hk))
  unfold u_lay at hlay
  rw [if_neg (by rw [hfin]; decide)] at hlay
  have hst := (u_facts hfc hkC (u_lays hts (am_inb ci hc) hk) hi').1
  have h6 := u_store hfc hkC hkind hlay hi' (am_tyok ci hc k hk) hn hfit
  refine W.putK hx hb (f := f) ⟨hown, hts _ hw, ⟨_, _, _, hi'⟩, hst⟩ (by rw [q2]; exact h6) q1 q3 (by rw [hsl]; exact k2_hasslot (q4 k hk)) rfl rfl hd fun H' e1 e2 e3 => ?_
  rw [hsl] at e1 ⊢
  exact kk H' [⟨a, _⟩] (hR.putO ha hc hi q2 q3 q4 hap hk e1 e2 e3) (fun q hq => by rw [List.mem_singleton.mp hq]; exact (hR.2.2.2.2.2 a (by omega)).1)
theorem Ev.putF {ci k i a : Nat} {v : Value} (hd : decode u.2.1 pc = .ok (.putfield i, 3)) (hc : ci < 11) (hk : k < am_n ci) (hw : Cond.fieldLink u.1.cls i (am_ct ci k).1 (am_ct ci k).2.1 (am_ct ci k).2.2.1 ∈ am_big) (hfin : (am_ct ci k).2.2.2 = true) (hin : u.1.name = "<init>") (hdecl : (am_ct ci k).1 = u.1.cls) (hn : narrow (am_tyf ci k) v = v) (hfit : fits (am_tyf ci k) v = true) (hi : am_is v (am_ty ci k)) (ha : hK h a = ci) (kk : Ev w Z u d (pc + 3) lv st (am_set h a k v) Q) : Ev w Z u d pc lv (v :: .ref a :: st) h Q := by
  refine Ev.goH (am_set_Z _ _ _ _) (am_set_S _ _ _ _) (fun C H locs cells slots ls QQ hR hl0 kk => ?_) kk
  rename_i p l e R s m args below meth c mc ms
  obtain ⟨hx, hb, -, -, -, hown, hname, hts, hKw, -⟩ := id C
  obtain ⟨cell, q1, q2, q3, q4⟩ := hR.obj ha hc
  have hap := va_apart (own := u.1.cls) hts (am_inb ci hc) (am_tyf ci) (am_tyok ci hc) (am_nm ci hc) hKw.1 (am_vw ci hc)
  obtain ⟨hS, hfc, kC, hkC, hkind⟩ := hKw.1.1 ci _ (am_vw ci hc)
  obtain ⟨cf, kf, fi, f, hi', hsl⟩ := hS k hk
  have hlay := hts _ (am_inb ci hc _ (u_in_lay hk))
  unfold u_lay at hlay
  rw [if_pos hfin] at hlay
  have hst := (u_facts hfc hkC (u_lays hts (am_inb ci hc) hk) hi').1
  have hcf : m.cls = cf := by
    obtain ⟨_, _, c', _, _, _, -, -, hf', -, -, -, hown2, -⟩ := Cond.laysFinal_spec hlay
    have e1 : c' = cf := by have := hi'.symm.trans hf'; simp at this; exact this.1.symm
    rw [hdecl] at hown2
    rw [← e1]; exact Option.some.inj (hown.symm.trans hown2)
  have h6 := u_fits hfc hkC hkind (Or.inr hlay) hi' (am_tyok ci hc k hk) hn hfit
  refine W.putFinK hx hb hown (hts _ hw) hi' hst hcf (hname.trans hin) (by rw [q2]; exact h6) q1 q3 (by rw [hsl]; exact k2_hasslot (q4 k hk)) rfl rfl hd fun H' e1 e2 e3 => ?_
  rw [hsl] at e1 ⊢
  exact kk H' [⟨a, _⟩] (hR.putO ha hc hi q2 q3 q4 hap hk e1 e2 e3) (fun q hq => by rw [List.mem_singleton.mp hq]; exact (hR.2.2.2.2.2 a (by omega)).1)
end MEM
end
section
section ARR
variable {w : am_W} {Z : am_Zt} {u : am_M} {d pc : Nat} {lv : List (Nat × Value)} {st : List Value} {h : am_H} {Q : Option Value → am_H → Prop}
theorem Ev.alen {a : Nat} (k : Nat) (hd : decode u.2.1 pc = .ok (.arraylength, 1)) (h1 : 11 ≤ k) (h2 : k < 16) (ha : hK h a = k) (kk : Ev w Z u d (pc + 1) lv (.int (nI (hN h a)) :: st) h Q) : Ev w Z u d pc lv (.ref a :: st) h Q := by
  refine Ev.go1 (fun C _ _ _ _ _ _ hR _ kk => ?_) kk
  exact W.alen (n := nI (hN h a)) C.1 C.2.1 (hR.arr ha h1 h2) ((C.2.2.2.2.2.2.2.2.1.arr h1 h2).1 _ _) (by rw [arrV_size]; rfl) rfl rfl hd kk
theorem Ev.iald {a : Nat} {i : Int32} (hd : decode u.2.1 pc = .ok (.iaload, 1)) (ha : hK h a = 12) (hin : vp_in i (hN h a)) (kk : Ev w Z u d (pc + 1) lv (.int (hI h a i.toNatClampNeg) :: st) h Q) : Ev w Z u d pc lv (.int i :: .ref a :: st) h Q := by
  refine Ev.go1 (fun C _ _ _ _ _ _ hR _ kk => ?_) kk
  have hlt : i.toNatClampNeg < hN h a := Nat.not_le.mp fun q => hin (Or.inr q)
  exact W.iald (v := .int (hI h a i.toNatClampNeg)) C.1 C.2.1 (hR.arr ha (by decide) (by decide)) ((C.2.2.2.2.2.2.2.2.1.arr (k := 12) (by decide) (by decide)).1 _ _) (fun q => by cases q) (by rw [arrV_size]; exact hin) (by rw [arrV_read _ _ hlt]; rfl) rfl rfl hd kk
theorem Ev.cald {a : Nat} {i : Int32} (hd : decode u.2.1 pc = .ok (.caload, 1)) (ha : hK h a = 11) (hin : vp_in i (hN h a)) (kk : Ev w Z u d (pc + 1) lv (.int (hI h a i.toNatClampNeg) :: st) h Q) : Ev w Z u d pc lv (.int i :: .ref a :: st) h Q := by
  refine Ev.go1 (fun C _ _ _ _ _ _ hR _ kk => ?_) kk
  have hlt : i.toNatClampNeg < hN h a := Nat.not_le.mp fun q => hin (Or.inr q)
  exact W.cald (v := .int (hI h a i.toNatClampNeg)) C.1 C.2.1 (hR.arr ha (by decide) (by decide)) ((C.2.2.2.2.2.2.2.2.1.arr (k := 11) (by decide) (by decide)).1 _ _) (fun q => by cases q) (by rw [arrV_size]; exact hin) (by rw [arrV_read _ _ hlt]; rfl) rfl rfl hd kk
theorem Ev.zald {a : Nat} {i : Int32} (hd : decode u.2.1 pc = .ok (.baload, 1)) (ha : hK h a = 14) (hin : vp_in i (hN h a)) (kk : Ev w Z u d (pc + 1) lv (.int (hI h a i.toNatClampNeg) :: st) h Q) : Ev w Z u d pc lv (.int i :: .ref a :: st) h Q := by
  refine Ev.go1 (fun C _ _ _ _ _ _ hR _ kk => ?_) kk
  have hlt : i.toNatClampNeg < hN h a := Nat.not_le.mp fun q => hin (Or.inr q)
  exact W.zald (v := .int (hI h a i.toNatClampNeg)) C.1 C.2.1 (hR.arr ha (by decide) (by decide)) ((C.2.2.2.2.2.2.2.2.1.arr (k := 14) (by decide) (by decide)).1 _ _) (fun q => by cases q) (by rw [arrV_size]; exact hin) (by rw [arrV_read _ _ hlt]; rfl) rfl rfl hd kk
theorem Ev.lald {a : Nat} {i : Int32} (hd : decode u.2.1 pc = .ok (.laload, 1)) (ha : hK h a = 13) (hin : vp_in i (hN h a)) (kk : Ev w Z u d (pc + 1) lv (.long (hJ h a i.toNatClampNeg) :: st) h Q) : Ev w Z u d pc lv (.int i :: .ref a :: st) h Q := by
  refine Ev.go1 (fun C _ _ _ _ _ _ hR _ kk => ?_) kk
  have hlt : i.toNatClampNeg < hN h a := Nat.not_le.mp fun q => hin (Or.inr q)
  exact W.lald (v := .long (hJ h a i.toNatClampNeg)) C.1 C.2.1 (hR.arr ha (by decide) (by decide)) ((C.2.2.2.2.2.2.2.2.1.arr (k := 13) (by decide) (by decide)).1 _ _) (fun q => by cases q) (by rw [arrV_size]; exact hin) (by rw [arrV_read _ _ hlt]; rfl) rfl rfl hd kk
theorem Ev.aald {a : Nat} {i : Int32} (hd : decode u.2.1 pc = .ok (.aaload, 1)) (ha : hK h a = 15) (hin : vp_in i (hN h a)) (hz : hR h a i.toNatClampNeg ≠ 0) (kk : Ev w Z u d (pc + 1) lv (.ref (hR h a i.toNatClampNeg) :: st) h Q) : Ev w Z u d pc lv (.int i :: .ref a :: st) h Q := by
  refine Ev.go1 (fun C _ _ _ _ _ _ hq _ kk => ?_) kk
  have hlt : i.toNatClampNeg < hN h a := Nat.not_le.mp fun q => hin (Or.inr q)
  exact W.aald (v := .ref (hR h a i.toNatClampNeg)) C.1 C.2.1 (hq.arr ha (by decide) (by decide)) ((C.2.2.2.2.2.2.2.2.1.arr (k := 15) (by decide) (by decide)).1 _ _) rfl (fun q => by cases q) (by rw [arrV_size]; exact hin) (by rw [arrV_read _ _ hlt]; exact congrArg some (am_o_ref hz)) rfl rfl hd kk
theorem am_R.putA {w : am_W} {h : am_H} {H H1 : Heap} (q : am_R w h H) {a k j : Nat} (ha : hK h a = k) (h1 : 11 ≤ k) (h2 : k < 16) {v : Value} (hi : am_is v (am_et k)) (e1 : H1[a]? = some ((arrV (w.2.1 k) (hN h a) (fun j => am_val h a j (am_et k))).setSlot j v)) (e2 : H1.size = H.size) (e3 : ∀ b : Nat, b ≠ a → H1[b]? = H[b]?) : am_R w (am_set h a j v) H1 := by
  refine q.put e2 e3 (by omega) (am_set_Z _ _ _ _) (am_set_K _ _ _ _) (am_set_N _ _ _ _) (fun b j t hb => am_set_ne t (Or.inl hb)) ?_
  unfold am_at
  rw [am_set_K, am_set_N, ha, if_neg (by omega), e1, arrV_store]
  congr 2
  funext i
  by_cases hj : i = j
  · subst hj
    rw [am_set_eq hi]
    simp [updV]
  · rw [am_set_ne _ (Or.inr hj)]
    simp [updV, hj]
theorem Ev.iast {a : Nat} {i x : Int32} (hd : decode u.2.1 pc = .ok (.iastore, 1)) (ha : hK h a = 12) (hin : vp_in i (hN h a)) (kk : Ev w Z u d (pc + 1) lv st (sI h a i.toNatClampNeg x) Q) : Ev w Z u d pc lv (.int x :: .int i :: .ref a :: st) h Q := by
  refine Ev.goH (h1 := sI h a i.toNatClampNeg x) rfl rfl (fun C _ _ _ _ _ _ hR _ kk => ?_) kk
  refine W.iast C.1 C.2.1 (hR.arr ha (by decide) (by decide)) ((C.2.2.2.2.2.2.2.2.1.arr (k := 12) (by decide) (by decide)).1 _ _) (fun q => by cases q) (by rw [arrV_size]; exact hin) rfl rfl hd fun H1 e1 e2 e3 => ?_
  exact kk H1 [⟨a, _⟩] (hR.putA ha (by decide) (by decide) (v := .int x) rfl e1 e2 e3) (fun q hq => by rw [List.mem_singleton.mp hq]; exact (hR.2.2.2.2.2 a (by omega)).1)
theorem Ev.last {a : Nat} {i : Int32} {x : Int64} (hd : decode u.2.1 pc = .ok (.lastore, 1)) (ha : hK h a = 13) (hin : vp_in i (hN h a)) (kk : Ev w Z u d (pc + 1) lv st (sJ h a i.toNatClampNeg x) Q) : Ev w Z u d pc lv (.long x :: .int i :: .ref a :: st) h Q := by
  refine Ev.goH (h1 := sJ h a i.toNatClampNeg x) rfl rfl (fun C _ _ _ _ _ _ hR _ kk => ?_) kk
  refine W.last C.1 C.2.1 (hR.arr ha (by decide) (by decide)) ((C.2.2.2.2.2.2.2.2.1.arr (k := 13) (by decide) (by decide)).1 _ _) (fun q => by cases q) (by rw [arrV_size]; exact hin) rfl rfl hd fun H1 e1 e2 e3 => ?_
  exact kk H1 [⟨a, _⟩] (hR.putA ha (by decide) (by decide) (v := .long x) rfl e1 e2 e3) (fun q hq => by rw [List.mem_singleton.mp hq]; exact (hR.2.2.2.2.2 a (by omega)).1)
theorem Ev.cast {a : Nat} {i x : Int32} (hd : decode u.2.1 pc = .ok (.castore, 1)) (ha : hK h a = 11) (hin : vp_in i (hN h a)) (hn : narrow .char (.int x) = .int x) (kk : Ev w Z u d (pc + 1) lv st (sI h a i.toNatClampNeg x) Q) : Ev w Z u d pc lv (.int x :: .int i :: .ref a :: st) h Q := by
  refine Ev.goH (h1 := sI h a i.toNatClampNeg x) rfl rfl (fun C _ _ _ _ _ _ hR _ kk => ?_) kk
  refine W.cast C.1 C.2.1 (hR.arr ha (by decide) (by decide)) ((C.2.2.2.2.2.2.2.2.1.arr (k := 11) (by decide) (by decide)).1 _ _) (fun q => by cases q) (by rw [arrV_size]; exact hin) rfl rfl hd fun H1 e1 e2 e3 => ?_
  rw [hn] at e1
  exact kk H1 [⟨a, _⟩] (hR.putA ha (by decide) (by decide) (v := .int x) rfl e1 e2 e3) (fun q hq => by rw [List.mem_singleton.mp hq]; exact (hR.2.2.2.2.2 a (by omega)).1)
theorem Ev.zast {a : Nat} {i x : Int32} (hd : decode u.2.1 pc = .ok (.bastore, 1)) (ha : hK h a = 14) (hin : vp_in i (hN h a)) (hn : narrow .boolean (.int x) = .int x) (kk : Ev w Z u d (pc + 1) lv st (sI h a i.toNatClampNeg x) Q) : Ev w Z u d pc lv (.int x :: .int i :: .ref a :: st) h Q := by
  refine Ev.goH (h1 := sI h a i.toNatClampNeg x) rfl rfl (fun C _ _ _ _ _ _ hR _ kk => ?_) kk
  refine W.zast C.1 C.2.1 (hR.arr ha (by decide) (by decide)) ((C.2.2.2.2.2.2.2.2.1.arr (k := 14) (by decide) (by decide)).1 _ _) (fun q => by cases q) (by rw [arrV_size]; exact hin) rfl rfl hd fun H1 e1 e2 e3 => ?_
  rw [hn] at e1
  exact kk H1 [⟨a, _⟩] (hR.putA ha (by decide) (by decide) (v := .int x) rfl e1 e2 e3) (fun q hq => by rw [List.mem_singleton.mp hq]; exact (hR.2.2.2.2.2 a (by omega)).1)
/-- a State put into an array of them -/
theorem Ev.aast {a v : Nat} {i : Int32} (hd : decode u.2.1 pc = .ok (.aastore, 1)) (ha : hK h a = 15) (hin : vp_in i (hN h a)) (hv : hK h v = 7) (kk : Ev w Z u d (pc + 1) lv st (sR h a i.toNatClampNeg v) Q) : Ev w Z u d pc lv (.ref v :: .int i :: .ref a :: st) h Q := by
  refine Ev.goH (h1 := sR h a i.toNatClampNeg v) rfl rfl (fun C _ _ _ _ _ _ hR _ kk => ?_) kk
  have hlt : i.toNatClampNeg < hN h a := Nat.not_le.mp fun q => hin (Or.inr q)
  have h0 : ¬ i < 0 := fun q => hin (Or.inl q)
  obtain ⟨cellV, g1, g2, g3, -⟩ := hR.obj hv (by decide)
  have hKw := C.2.2.2.2.2.2.2.2.1
  have hcls := (hKw.1.1 7 _ (am_vw 7 (by decide))).2
  obtain ⟨kA, comp, k1, k2, k3, -⟩ := (hKw.arr (k := 15) (by decide) (by decide)).2
  have hcomp : comp = w.1.1 7 := Option.some.inj (k3.symm.trans hcls.1)
  subst hcomp
  obtain ⟨kC, hkC, -⟩ := hcls.2
  have hv0 : v ≠ 0 := fun e => by have h3 := (hR.2.2.2.2.2 v (by omega)).1; have h4 := hR.2.2.1; omega
  refine W.aast C.1 C.2.1 (hR.arr ha (by decide) (by decide)) (fun q h => by cases h) (fun h => by cases h) k1 k2 rfl hkC ⟨h0, by rw [arrV_size]; exact hlt⟩ g1 (fun q h => by rw [g3] at h; cases h) (by rw [g2]; exact hkC) (by rw [g2]; exact va_assign hcls) rfl rfl hd fun H1 e1 e2 e3 => ?_
  exact kk H1 [⟨a, _⟩] (hR.putA ha (by decide) (by decide) (v := .ref v) ⟨rfl, hv0⟩ e1 e2 e3) (fun q hq => by rw [List.mem_singleton.mp hq]; exact (hR.2.2.2.2.2 a (by omega)).1)
end ARR
end
section
theorem am_val_new {h h1 : am_H} {b : Nat} (hI1 : hI h1 b = hI h b) (hJ1 : hJ h1 b = hJ h b) (hR1 : hR h1 b = hR h b) (j t : Nat) : am_val h1 b j t = am_val h b j t := by
  unfold am_val
  rw [hI1, hJ1, hR1]
theorem am_val_nO (h : am_H) (ci n : Nat) {b : Nat} (hb : b ≠ hZ h) (j t : Nat) : am_val (nO h ci n) b j t = am_val h b j t := am_val_new (h := h) (h1 := nO h ci n) (va_up_ne _ _ hb) (va_up_ne _ _ hb) (va_up_ne _ _ hb) j t
theorem am_val_nA (h : am_H) (ci n : Nat) {b : Nat} (hb : b ≠ hZ h) (j t : Nat) : am_val (nA h ci n) b j t = am_val h b j t := am_val_new (h := h) (h1 := nA h ci n) (va_up_ne _ _ hb) (va_up_ne _ _ hb) (va_up_ne _ _ hb) j t
/-- a cell is born at the heap's end -/
theorem am_R.born {w : am_W} {h h1 : am_H} {H H1 : Heap} {k : Nat} (q : am_R w h H) (hz : H1.size = hZ h + 1) (ho : ∀ b : Nat, b < hZ h → H1[b]? = H[b]?) (z1 : hZ h1 = hZ h + 1) (k1 : hK h1 = va_up (hK h) (hZ h) k) (n1 : ∀ b, b ≠ hZ h → hN h1 b = hN h b) (v1 : ∀ b j t, b ≠ hZ h → am_val h1 b j t = am_val h b j t) (h1a : am_at w h1 H1 (hZ h)) : am_R w h1 H1 := by
  obtain ⟨q1, q2, q3, q4, q5, q6⟩ := q
  refine ⟨by rw [hz, z1], q2, q3, by omega, fun b hb => ?_, fun b hb => ?_⟩
  · rw [ho b (by omega), q5 b hb]
  · by_cases e : b = hZ h
    · subst e
      exact ⟨q4, h1a⟩
    · rw [k1, va_up_ne _ _ e] at hb
      have hl : b < hZ h := by rw [← q1]; exact (q6 b hb).2.lt
      exact ⟨(q6 b hb).1, (q6 b hb).2.kept (ho b hl) (by rw [k1, va_up_ne _ _ e]) (n1 b e) (fun j t => v1 b j t e)⟩
section NEW
variable {w : am_W} {Z : am_Zt} {u : am_M} {d pc : Nat} {lv : List (Nat × Value)} {st : List Value} {h : am_H} {Q : Option Value → am_H → Prop}
theorem Ev.newO {ci i : Nat} (hd : decode u.2.1 pc = .ok (.new i, 3)) (hc : ci < 11) (hw : Cond.classLink u.1.cls i (am_cn ci) ∈ am_big) (hi : Cond.instantiable (am_cn ci) (am_n ci) ∈ am_big) (hn : Cond.initialized (am_cn ci) ∈ am_big) (kk : Ev w Z u d (pc + 3) lv (.ref (hZ h) :: st) (nO h ci (am_n ci)) Q) : Ev w Z u d pc lv st h Q := by
  refine Ev.goN (h1 := nO h ci (am_n ci)) (n := am_n ci) rfl rfl (fun C H locs cells slots ls QQ h1 h2 hq hl kk => ?_) kk
  rename_i p l e R s m args below meth c mc ms
  obtain ⟨hx, hb, -, -, -, hown, -, hts, hKw, -⟩ := id C
  have hKn := hKw.1.1 ci _ (am_vw ci hc)
  refine W.newcK (n := am_n ci) hx hb hown (hts _ hw) (hts _ hi) (hts _ hn) rfl hd h1 h2 hKn.2.1 hq.1 fun H1 kC hkC e1 z1 o1 => ?_
  refine kk H1 (hq.born (k := ci) z1 o1 rfl rfl (fun b _ => rfl) (fun b j t hb => am_val_nO _ _ _ hb j t) ?_)
  have hk1 : hK (nO h ci (am_n ci)) (hZ h) = ci := va_up_self _ _ _
  unfold am_at
  rw [hk1, if_pos hc]
  refine (u_born (am_tyf ci) hts (am_inb ci hc) hKn hkC e1 (am_tyok ci hc)).to (fun k hk => ?_)
  rw [am_dflt ci hc k hk]
  unfold am_zero am_val
  split
  · simp [nO, hI, va_up_self]
  · split
    · simp [nO, hJ, va_up_self]
    · simp [nO, hR, va_up_self, am_o]
theorem Ev.newA {k : Nat} {ty : ArrayType} {n : Int32} {N : Nat} (hd : decode u.2.1 pc = .ok (.newarray ty, 2)) (h1 : 11 ≤ k) (h2 : k < 15) (ht : newarray.typeOf ty = am_aty k) (hz : defaultValue (am_aty k) = am_zero (am_et k)) (hw : Cond.arrayClass (am_aty k) ∈ am_big) (hn : ¬ n < 0) (hN' : n.toNatClampNeg = N) (hbytes : N * componentBytes (am_aty k) ≤ 536870912) (hra : ∀ (s : State) (c : ClassId), va_RA s c (am_aty k) → s.vm.findClass ("[" ++ (am_aty k).toString) = some c) (kk : Ev w Z u d (pc + 2) lv (.ref (hZ h) :: st) (nA h k N) Q) : Ev w Z u d pc lv (.int n :: st) h Q := by
  refine Ev.goN (h1 := nA h k N) (n := N) rfl rfl (fun C H locs cells slots ls QQ g1 g2 hq hl kk => ?_) kk
  rename_i p l e R s m args below meth c mc ms
  obtain ⟨hx, hb, -, -, -, hown, -, hts, hKw, -⟩ := id C
  refine va_newaK hx hb (atype := ty) (by rw [ht]; exact hts _ hw) rfl hd rfl hn hN' (by rw [ht]; exact hbytes) g1 g2 hq.1 fun H1 cA e1 z1 o1 hAr hNm => ?_
  rw [ht] at e1 hAr hNm
  have hcA : cA = w.2.1 k := Option.some.inj (hNm.symm.trans (hra _ _ (hKw.arr h1 (by omega)).2))
  subst hcA
  refine kk H1 (hq.born (k := k) z1 o1 rfl rfl (fun b hb => va_up_ne _ _ hb) (fun b j t hb => am_val_nA _ _ _ hb j t) ?_)
  have hk1 : hK (nA h k N) (hZ h) = k := va_up_self _ _ _
  have hn1 : hN (nA h k N) (hZ h) = N := va_up_self _ _ _
  unfold am_at
  rw [hk1, hn1, if_neg (by omega), e1, hz]
  congr 2
  funext j
  unfold am_zero am_val
  split
  · simp [nA, hI, va_up_self]
  · split
    · simp [nA, hJ, va_up_self]
    · simp [nA, hR, va_up_self, am_o]
theorem Ev.newI {n : Int32} {N : Nat} (hd : decode u.2.1 pc = .ok (.newarray .int, 2)) (hw : Cond.arrayClass .int ∈ am_big) (hn : ¬ n < 0) (hN' : n.toNatClampNeg = N) (hb : N ≤ 100000000) (kk : Ev w Z u d (pc + 2) lv (.ref (hZ h) :: st) (nA h 12 N) Q) : Ev w Z u d pc lv (.int n :: st) h Q :=
  Ev.newA (k := 12) hd (by decide) (by decide) rfl rfl hw hn hN' (show N * 4 ≤ _ by omega) (fun _ _ q => q) kk
theorem Ev.newJ {n : Int32} {N : Nat} (hd : decode u.2.1 pc = .ok (.newarray .long, 2)) (hw : Cond.arrayClass .long ∈ am_big) (hn : ¬ n < 0) (hN' : n.toNatClampNeg = N) (hb : N ≤ 50000000) (kk : Ev w Z u d (pc + 2) lv (.ref (hZ h) :: st) (nA h 13 N) Q) : Ev w Z u d pc lv (.int n :: st) h Q :=
  Ev.newA (k := 13) hd (by decide) (by decide) rfl rfl hw hn hN' (show N * 8 ≤ _ by omega) (fun _ _ q => q) kk
theorem Ev.newZ {n : Int32} {N : Nat} (hd : decode u.2.1 pc = .ok (.newarray .boolean, 2)) (hw : Cond.arrayClass .boolean ∈ am_big) (hn : ¬ n < 0) (hN' : n.toNatClampNeg = N) (hb : N ≤ 100000000) (kk : Ev w Z u d (pc + 2) lv (.ref (hZ h) :: st) (nA h 14 N) Q) : Ev w Z u d pc lv (.int n :: st) h Q :=
  Ev.newA (k := 14) hd (by decide) (by decide) rfl rfl hw hn hN' (show N * 1 ≤ _ by omega) (fun _ _ q => q) kk
theorem Ev.newC {n : Int32} {N : Nat} (hd : decode u.2.1 pc = .ok (.newarray .char, 2)) (hw : Cond.arrayClass .char ∈ am_big) (hn : ¬ n < 0) (hN' : n.toNatClampNeg = N) (hb : N ≤ 100000000) (kk : Ev w Z u d (pc + 2) lv (.ref (hZ h) :: st) (nA h 11 N) Q) : Ev w Z u d pc lv (.int n :: st) h Q :=
  Ev.newA (k := 11) hd (by decide) (by decide) rfl rfl hw hn hN' (show N * 2 ≤ _ by omega) (fun _ _ q => q) kk
/-- an array of States -/
theorem Ev.newS {i : Nat} {n : Int32} {N : Nat} (hd : decode u.2.1 pc = .ok (.anewarray i, 3)) (hw : Cond.classLink u.1.cls i "EvenFerry$State" ∈ am_big) (hao : ∀ s, w.2.2.2.2 s → va_AO "EvenFerry$State" s) (hn : ¬ n < 0) (hN' : n.toNatClampNeg = N) (hb : N ≤ 100000000) (kk : Ev w Z u d (pc + 3) lv (.ref (hZ h) :: st) (nA h 15 N) Q) : Ev w Z u d pc lv (.int n :: st) h Q := by
  refine Ev.goN (h1 := nA h 15 N) (n := N) rfl rfl (fun C H locs cells slots ls QQ g1 g2 hq hl kk => ?_) kk
  rename_i p l e R s m args below meth c mc ms
  obtain ⟨hx, hb', -, -, -, hown, -, hts, hKw, -⟩ := id C
  subst hN'
  refine W.anew hx hb' hown (hts _ hw) (va_AO.use (hao s hKw.2.2.1)) rfl hd rfl hn (by omega) g1 g2 fun cA kA comp f1 f2 f3 f4 => ?_
  generalize hH1 : H.push ({ cls := cA, slots := Array.replicate n.toNatClampNeg .null, vm := .none } : Cell) = H1
  have z1 : H1.size = hZ h + 1 := by rw [← hH1, Array.size_push, hq.1]
  have e1 : H1[hZ h]? = some (arrV cA n.toNatClampNeg (fun _ => .null)) := by rw [← hH1, ← hq.1, Array.getElem?_push_size, ← arrV_new]
  have o1 : ∀ q : Nat, q < hZ h → H1[q]? = H[q]? := fun q hl => by rw [← hH1, Array.getElem?_push, if_neg (by rw [hq.1]; exact Nat.ne_of_lt hl)]
  obtain ⟨-, -, -, -, -, k4⟩ := (hKw.arr (k := 15) (by decide) (by decide)).2
  have hcA : cA = w.2.1 15 := Option.some.inj (f1.symm.trans k4)
  subst hcA
  rw [hq.1]
  refine kk H1 (hq.born (k := 15) z1 o1 rfl rfl (fun b hb => va_up_ne _ _ hb) (fun b j t hb => am_val_nA _ _ _ hb j t) ?_)
  have hk1 : hK (nA h 15 n.toNatClampNeg) (hZ h) = 15 := va_up_self _ _ _
  have hn1 : hN (nA h 15 n.toNatClampNeg) (hZ h) = n.toNatClampNeg := va_up_self _ _ _
  unfold am_at
  rw [hk1, hn1, if_neg (by omega), e1]
  congr 2
  funext j
  simp [am_val, am_et, nA, hR, va_up_self, am_o]
/-! ends -/
theorem Ev.iret {v : Int32} (rt : FieldType) (hd : decode u.2.1 pc = .ok (.ireturn, 1)) (hr : u.2.2.2 = some rt) (hn : narrow rt (.int v) = .int v) (hQ : Q (some (.int v)) h) : Ev w (am_Z w) u d pc lv [.int v] h Q := by
  refine ⟨_, h, hQ, Nat.le_refl _, Nat.le_refl _, fun p l e R s m args below meth c mc ms C H locs cells slots ls hq hl hf hc hs => ?_⟩
  have ec : cells = mc := by omega
  have es : slots = ms := by omega
  subst ec; subst es
  exact W.zret C.1 C.2.1 (C.2.2.1.trans hr) hn (fun t ht _ => ⟨rfl, by rw [ht]; exact hq⟩) hf hd C.2.2.2.1
theorem Ev.lret {v : Int64} (hd : decode u.2.1 pc = .ok (.lreturn, 1)) (hr : u.2.2.2 = some .long) (hQ : Q (some (.long v)) h) : Ev w (am_Z w) u d pc lv [.long v] h Q := by
  refine ⟨_, h, hQ, Nat.le_refl _, Nat.le_refl _, fun p l e R s m args below meth c mc ms C H locs cells slots ls hq hl hf hc hs => ?_⟩
  have ec : cells = mc := by omega
  have es : slots = ms := by omega
  subst ec; subst es
  exact W.lret C.1 C.2.1 (C.2.2.1.trans hr) (fun t ht _ => ⟨rfl, by rw [ht]; exact hq⟩) hf hd C.2.2.2.1
theorem Ev.vret (hd : decode u.2.1 pc = .ok (.return_, 1)) (hr : u.2.2.2 = none) (hQ : Q none h) : Ev w (am_Z w) u d pc lv [] h Q := by
  refine ⟨_, h, hQ, Nat.le_refl _, Nat.le_refl _, fun p l e R s m args below meth c mc ms C H locs cells slots ls hq hl hf hc hs => ?_⟩
  have ec : cells = mc := by omega
  have es : slots = ms := by omega
  subst ec; subst es
  exact W.vret C.1 C.2.1 (C.2.2.1.trans hr) (fun t ht _ => ⟨rfl, by rw [ht]; exact hq⟩) hf hd C.2.2.2.1
theorem Ev.aret {v : Nat} (n : FieldType) (hn : (∃ x, n = .object x) ∨ ∃ x, n = .array x) (hd : decode u.2.1 pc = .ok (.areturn, 1)) (hr : u.2.2.2 = some n) (hQ : Q (some (.ref v)) h) : Ev w (am_Z w) u d pc lv [.ref v] h Q := by
  refine ⟨_, h, hQ, Nat.le_refl _, Nat.le_refl _, fun p l e R s m args below meth c mc ms C H locs cells slots ls hq hl hf hc hs => ?_⟩
  have ec : cells = mc := by omega
  have es : slots = ms := by omega
  subst ec; subst es
  exact W.aret C.1 C.2.1 (C.2.2.1.trans hr) hn (Or.inr ⟨v, rfl⟩) (fun t ht _ => ⟨rfl, by rw [ht]; exact hq⟩) hf hd C.2.2.2.1
end NEW
end
section
/-! Calls over the picture. -/
def am_ws (u : am_M) : List Cond := Cond.code u.1 u.2.1 u.2.2.1 u.2.2.2 :: am_big
def am_rm (d c s : Nat) : Room := { frames := d, cells := c, slots := s, locals := 100 * d }
def am_P (w : am_W) (As : List Value) (h : am_H) : Array Value → State → Prop := va_Pc As (fun U => am_R w h U.heap ∧ am_Kw w U)
def am_Qc (w : am_W) (r : Option Value) (h' : am_H) : Array Value → State → Outcome → State → Prop := fun _ _ o t => o = .returned r ∧ am_R w h' t.heap
theorem am_P.blind {w : am_W} {As : List Value} {h : am_H} : FrameBlind (am_P w As h) := fun a U g mk q => ⟨q.1, q.2.1, q.2.2.calling⟩
/-- a method that may be called: its code and its class's being there are words; its name is an ordinary one; n arguments beside the object -/
def am_ok (u : am_M) (n : Nat) : Prop := Cond.code u.1 u.2.1 u.2.2.1 u.2.2.2 ∈ am_big ∧ Cond.initialized u.1.cls ∈ am_big ∧ plainName u.1.cls = true ∧ (u.1.cls ≠ "java/lang/invoke/MethodHandle" ∧ u.1.cls ≠ "java/lang/invoke/VarHandle" ∧ (parseMethodDescriptor u.1.desc).map (fun d => d.parameters.length) = some n) ∧ u.2.2.1 ≤ 60
theorem am_good {u : am_M} {n : Nat} (o : am_ok u n) : GoodIn am_big (am_ws u) := fun x hx => by
  rcases List.mem_cons.mp hx with rfl | hx
  · exact ⟨o.1, am_big_good o.1⟩
  · exact ⟨hx, am_big_good hx⟩
theorem EvM.met {w : am_W} {u : am_M} {d : Nat} {As : List Value} {h : am_H} {Q : Option Value → am_H → Prop} (hy : plainName u.1.cls = true) (hfit : (lg_sl As).length ≤ u.2.2.1) (k : EvM w u d As h Q) :
    ∃ (r : Option Value) (h' : am_H), Q r h' ∧ hZ h ≤ hZ h' ∧ hS h ≤ hS h' ∧ ∀ l : Launch, l.stackTraces = false → Met l u.1 (am_ws u) (am_rm d (hZ h' - hZ h) (hS h' - hS h)) (am_P w As h) (am_Qc w r h') (hZ h' - hZ h) (hS h' - hS h) (fun q => w.2.2.1 ≤ q) := by
  obtain ⟨r, h', q, z, s', g⟩ := k
  refine ⟨r, h', q, z, s', fun l hl => ?_⟩
  refine Met.ofW (cc := u.2.1) (maxL := u.2.2.1) (ret := u.2.2.2) hy rfl ?_
  intro p e s m args below meth c s₁ B hml hv
  obtain ⟨rfl, hR0, hK0⟩ := hv
  have hts := atoms_spec (ws := am_ws u) B.pre
  have hown : s.vm.findClass u.1.cls = some m.cls := findClass_of_methodNamed B.named
  have hl0 := lv_entry As (n := u.2.2.1) hfit
  rw [lg_entry_eq]
  exact g p l e _ s m _ below meth c (hZ h' - hZ h) (hS h' - hS h) ⟨B.exec, B.bytes, B.returns, B.notSynchronized, hml, hown, (name_of_methodNamed B.named B.method).1, fun x hx => hts x (List.mem_cons_of_mem _ hx), hK0, Nat.le_refl _, Nat.le_refl _, Nat.le_refl _, Nat.le_refl _, hl⟩ s.heap [] 0 0 _ hR0 hl0 (fun q hq => by cases hq) (by omega) (by omega)
section CALL
variable {w : am_W} {Z : am_Zt} {u v : am_M} {d pc i n : Nat} {lv : List (Nat × Value)} {st st0 As : List Value} {h : am_H} {Q : Option Value → am_H → Prop}
theorem Ev.call0 (o : am_ok v n) (hfit : (lg_sl As).length ≤ v.2.2.1) (k : EvM w v d As h (fun r h1 => Ev w Z u (d + 1) (pc + 3) lv (r.toList ++ st) h1 Q))
    (run : ∀ {p : Program} {l : Launch} {e : Env} {R : Room} {s : State} {m : MethodId} {args : Array Value} {below : List Frame} {meth : Method} {c : Code} {mc ms : Nat}, am_C w u (d + 1) p l R s m args meth c mc ms → ∀ {H : Heap} {locs : List Loc} {cells slots : Nat} {ls : Array Slot} {r : Option Value} {h1 : am_H}, am_R w h H → lv_has ls u.2.2.1 lv →
      (cells + (hZ h1 - hZ h) ≤ R.cells ∧ slots + (hS h1 - hS h) ≤ R.slots) → Met l v.1 (am_ws v) (am_rm d (hZ h1 - hZ h) (hS h1 - hS h)) (am_P w As h) (am_Qc w r h1) (hZ h1 - hZ h) (hS h1 - hS h) (fun q => w.2.2.1 ≤ q) →
      va_Run p l e R s m args below meth c H locs cells slots (hZ h1 - hZ h) (hS h1 - hS h) (F0 m pc ls st0) st (am_Qc w r h1 #[]) (fun q => w.2.2.1 ≤ q)) : Ev w Z u (d + 1) pc lv st0 h Q := by
  obtain ⟨r, h1, ⟨r2, h2, q, z2, s2, g2⟩, z1, s1, hM⟩ := EvM.met o.2.2.1 hfit k
  refine ⟨r2, h2, q, by omega, by omega, fun p l e R s m args below meth c mc ms C H locs cells slots ls hq hl hf hc hs => ?_⟩
  obtain ⟨-, -, -, -, -, -, -, -, -, -, -, hmc, hms, htr⟩ := id C
  intro T hT X
  obtain ⟨v', st₀, t, T', L, h0, X', hL, e1, e2, ⟨hv, hR1⟩, stp⟩ := run (e := e) (below := below) C hq hl ⟨by omega, by omega⟩ (hM l htr) T hT X
  cases hv
  obtain ⟨t2, a1, b1⟩ := g2 p l e R s m args below meth c mc ms C t.heap (locs ++ L) _ _ ls hR1 hl (fun q hq => (List.mem_append.mp hq).elim (hf q) (hL q)) (by omega) (by omega) T' e1 X'
  exact ⟨t2, stp t2 a1, b1⟩
theorem am_preS {s : State} {H : Heap} (hK0 : am_Kw w s) (hq : am_R w h H) : PreS s H (am_P w As h) As := ⟨am_P.blind, fun U hU hW => ⟨rfl, by rw [hU]; exact hq, hK0.warm hW⟩⟩
theorem am_R.recv {w : am_W} {h : am_H} {H : Heap} {s : State} (hq : am_R w h H) (hK0 : am_Kw w s) {a ci : Nat} (hc : ci < 11) (ha : hK h a = ci) : ∃ cell : Cell, H[a]? = some cell ∧ cell.vm.isStatics = false ∧ s.vm.findClass (am_cn ci) = some cell.cls := by
  obtain ⟨cell, q1, q2, q3, -⟩ := hq.obj ha hc
  exact ⟨cell, q1, by rw [q3]; rfl, by rw [q2]; exact (hK0.1.1 ci _ (am_vw ci hc)).2.1⟩
theorem am_hR {R : Room} (C1 : d + 1 ≤ R.frames) (C2 : 100 * (d + 1) ≤ R.locals) (hv : v.2.2.1 ≤ 60) (c s : Nat) : (am_rm d c s).frames + 1 ≤ R.frames ∧ 8 + (v.2.2.1 + 11) + (am_rm d c s).locals ≤ R.locals := by
  refine ⟨C1, ?_⟩
  show 8 + (v.2.2.1 + 11) + 100 * d ≤ R.locals
  omega
/-- a static method -/
theorem Ev.callS (o : am_ok v n) (hst : Cond.static v.1 ∈ am_big) (hl : Cond.methodLink u.1.cls i v.1 ∈ am_big) (hd : decode u.2.1 pc = .ok (.invokestatic i, 3)) (hn : As.length = n) (hs : st0 = As.reverse ++ st) (hfit : (lg_sl As).length ≤ v.2.2.1) (hrm : (st.map fun x => x.category).sum ≤ 8) (k : EvM w v d As h (fun r h1 => Ev w Z u (d + 1) (pc + 3) lv (r.toList ++ st) h1 Q)) : Ev w Z u (d + 1) pc lv st0 h Q := by
  refine Ev.call0 o hfit k (fun C _ _ _ _ _ _ _ hq hlv hf hM => ?_)
  obtain ⟨hx, hb, -, -, hml, hown, -, hts, hKw, hfr, hlo, -⟩ := id C
  exact va_runS (As := As) ⟨hx, hb, hml, hown, hts⟩ hM ⟨callB_of n hts (am_good o) rfl rfl rfl (hts _ o.2.1) (hts _ hl) o.2.2.2.1 (am_hR hfr hlo o.2.2.2.2 _ _), hts _ hst⟩ (am_preS hKw hq) rfl hn hlv.1 hs (lv_room hrm) hd hf
/-- a private static method of a nest mate -/
theorem Ev.callSN {host : String} (o : am_ok v n) (hst : Cond.static v.1 ∈ am_big) (hl : Cond.methodLinkNest u.1.cls i v.1 host ∈ am_nest) (hd : decode u.2.1 pc = .ok (.invokestatic i, 3)) (hn : As.length = n) (hs : st0 = As.reverse ++ st) (hfit : (lg_sl As).length ≤ v.2.2.1) (hrm : (st.map fun x => x.category).sum ≤ 8) (k : EvM w v d As h (fun r h1 => Ev w Z u (d + 1) (pc + 3) lv (r.toList ++ st) h1 Q)) : Ev w Z u (d + 1) pc lv st0 h Q := by
  refine Ev.call0 o hfit k (fun C _ _ _ _ _ _ _ hq hlv hf hM => ?_)
  obtain ⟨hx, hb, -, -, hml, hown, -, hts, hKw, hfr, hlo, -⟩ := id C
  exact va_runSN (As := As) ⟨hx, hb, hml, hown, hts⟩ hM ⟨va_cnB n hts (am_good o) rfl rfl rfl (hKw.2.1 _ hl) (hts _ o.2.1) o.2.2.2.1 (am_hR hfr hlo o.2.2.2.2 _ _), hts _ hst, trivial⟩ (am_preS hKw hq) rfl hn hlv.1 hs (lv_room hrm) hd hf
/-- a method of an object -/
theorem Ev.callV {a ci : Nat} (o : am_ok v n) (hin : Cond.instanceMethod v.1 ∈ am_big) (hse : Cond.selects (am_cn ci) v.1 v.1 ∈ am_big) (hl : Cond.methodLink u.1.cls i v.1 ∈ am_big) (hd : decode u.2.1 pc = .ok (.invokevirtual i, 3)) (hc : ci < 11) (hn : As.length = n) (hs : st0 = As.reverse ++ .ref a :: st) (hfit : (lg_sl (.ref a :: As)).length ≤ v.2.2.1) (hrm : (st.map fun x => x.category).sum ≤ 8) (ha : hK h a = ci) (k : EvM w v d (.ref a :: As) h (fun r h1 => Ev w Z u (d + 1) (pc + 3) lv (r.toList ++ st) h1 Q)) : Ev w Z u (d + 1) pc lv st0 h Q := by
  refine Ev.call0 o hfit k (fun C _ _ _ _ _ _ _ hq hlv hf hM => ?_)
  obtain ⟨hx, hb, -, -, hml, hown, -, hts, hKw, hfr, hlo, -⟩ := id C
  exact va_runV (C := am_cn ci) (As := As) ⟨hx, hb, hml, hown, hts⟩ hM ⟨callB_of n hts (am_good o) rfl rfl rfl (hts _ o.2.1) (hts _ hl) o.2.2.2.1 (am_hR hfr hlo o.2.2.2.2 _ _), hts _ hin, hts _ hse⟩ ⟨am_P.blind, hq.recv hKw hc ha, (am_preS hKw hq).2⟩ rfl hn hlv.1 hs (lv_room hrm) hd hf
/-- a constructor -/
theorem Ev.callI {a : Nat} (o : am_ok v n) (hin : Cond.instanceMethod v.1 ∈ am_big) (hnm : v.1.name = "<init>") (hret : v.2.2.2 = none) (hl : Cond.methodLink u.1.cls i v.1 ∈ am_big) (hd : decode u.2.1 pc = .ok (.invokespecial i, 3)) (hn : As.length = n) (hs : st0 = As.reverse ++ .ref a :: st) (hfit : (lg_sl (.ref a :: As)).length ≤ v.2.2.1) (hrm : (st.map fun x => x.category).sum ≤ 8) (k : EvM w v d (.ref a :: As) h (fun r h1 => Ev w Z u (d + 1) (pc + 3) lv (r.toList ++ st) h1 Q)) : Ev w Z u (d + 1) pc lv st0 h Q := by
  refine Ev.call0 o hfit k (fun C _ _ _ _ _ _ _ hq hlv hf hM => ?_)
  obtain ⟨hx, hb, -, -, hml, hown, -, hts, hKw, hfr, hlo, -⟩ := id C
  exact va_runI (As := As) ⟨hx, hb, hml, hown, hts⟩ hM ⟨callB_of (y := v.1) (bytes := v.2.1) (maxL := v.2.2.1) n hts (am_good o) (by rw [am_ws, hret]) rfl rfl (hts _ o.2.1) (hts _ hl) o.2.2.2.1 (am_hR hfr hlo o.2.2.2.2 _ _), hnm, hts _ hin⟩ (am_preS hKw hq) rfl hn hlv.1 hs (lv_room hrm) hd hf
/-- a private constructor of a nest mate -/
theorem Ev.callIN {a : Nat} {host : String} (o : am_ok v n) (hin : Cond.instanceMethod v.1 ∈ am_big) (hnm : v.1.name = "<init>") (hret : v.2.2.2 = none) (hl : Cond.methodLinkNest u.1.cls i v.1 host ∈ am_nest) (hd : decode u.2.1 pc = .ok (.invokespecial i, 3)) (hn : As.length = n) (hs : st0 = As.reverse ++ .ref a :: st) (hfit : (lg_sl (.ref a :: As)).length ≤ v.2.2.1) (hrm : (st.map fun x => x.category).sum ≤ 8) (k : EvM w v d (.ref a :: As) h (fun r h1 => Ev w Z u (d + 1) (pc + 3) lv (r.toList ++ st) h1 Q)) : Ev w Z u (d + 1) pc lv st0 h Q := by
  refine Ev.call0 o hfit k (fun C _ _ _ _ _ _ _ hq hlv hf hM => ?_)
  obtain ⟨hx, hb, -, -, hml, hown, -, hts, hKw, hfr, hlo, -⟩ := id C
  exact va_runIN (As := As) ⟨hx, hb, hml, hown, hts⟩ hM ⟨va_cnB (y := v.1) (bytes := v.2.1) (maxL := v.2.2.1) n hts (am_good o) (by rw [am_ws, hret]) rfl rfl (hKw.2.1 _ hl) (hts _ o.2.1) o.2.2.2.1 (am_hR hfr hlo o.2.2.2.2 _ _), hnm, hts _ hin⟩ (am_preS hKw hq) rfl hn hlv.1 hs (lv_room hrm) hd hf
/-- Object's constructor -/
theorem Ev.objI {a : Nat} (hl : Cond.methodLink u.1.cls i Lib.objectInit ∈ am_big) (hin : Cond.instanceMethod Lib.objectInit ∈ am_big) (hc : Cond.code Lib.objectInit ⟨#[0xb1]⟩ 1 none ∈ am_big) (hd : decode u.2.1 pc = .ok (.invokespecial i, 3)) (hrm : (st.map fun x => x.category).sum ≤ 8) (k : Ev w Z u (d + 1) (pc + 3) lv st h Q) : Ev w Z u (d + 1) pc lv (.ref a :: st) h Q := by
  refine Ev.go1 (fun C _ _ _ _ _ _ hq hlv kk => ?_) k
  obtain ⟨hx, hb, -, -, hml, hown, -, hts, hKw, hfr, hlo, -⟩ := id C
  refine W.objInit hx hb hown (hts _ hl) (hts _ hin) (hts _ hc) rfl (hlv.1.trans hml.symm) rfl hd (by omega) ?_ kk
  have := lv_room (m := default) (pc := 0) (ls := #[]) (rest := []) hrm
  show 2 * JFrame.monitorRoom (F0 _ _ _ _) + _ + 12 ≤ _
  simp [JFrame.monitorRoom]
  omega
end CALL
end
section
theorem am_dt {c : ByteArray} {t : List (Nat × Instr × Nat)} (h : t.all (fun q => decide (decode c q.1 = .ok q.2)) = true) (i : Nat) {pc : Nat} {x : Instr × Nat} (hi : t[i]? = some (pc, x)) : decode c pc = .ok x := by
  have h1 := List.all_eq_true.mp h _ (List.mem_of_getElem? hi)
  rwa [decide_eq_true_iff] at h1
theorem am_lc {x y : Int64} : lg_cmp x y = 0 ↔ x = y := by
  unfold lg_cmp
  by_cases h1 : x > y
  · rw [if_pos h1]
    refine ⟨fun h => absurd h (by decide), fun h => ?_⟩
    subst h
    rw [gt_iff_lt, Int64.lt_iff_toInt_lt] at h1
    omega
  · rw [if_neg h1]
    by_cases h2 : x = y
    · rw [if_pos h2]; exact ⟨fun _ => h2, fun _ => rfl⟩
    · rw [if_neg h2]; exact ⟨fun h => absurd h (by decide), fun h => absurd h h2⟩
theorem am_ne {x c : Int32} {n : Int} (hc : c.toInt = n) (h : ¬ x = c) : x.toInt ≠ n := fun e => h (Int32.toInt_inj.mp (e.trans hc.symm))
theorem EvM.mono {w : am_W} {u : am_M} {d : Nat} {As : List Value} {h : am_H} {Q Q' : Option Value → am_H → Prop} (k : EvM w u d As h Q) (hQ : ∀ r h', Q r h' → Q' r h') : EvM w u d As h Q' := Ev.mono k hQ
section PUTS
variable {w : am_W} {Z : am_Zt} {u : am_M} {d pc : Nat} {lv : List (Nat × Value)} {st : List Value} {h : am_H} {Q : Option Value → am_H → Prop}
theorem Ev.putI {ci k i a : Nat} {x : Int32} (hd : decode u.2.1 pc = .ok (.putfield i, 3)) (hc : ci < 11) (hk : k < am_n ci) (hw : Cond.fieldLink u.1.cls i (am_ct ci k).1 (am_ct ci k).2.1 (am_ct ci k).2.2.1 ∈ am_big) (hfin : (am_ct ci k).2.2.2 = false) (hn : narrow (am_tyf ci k) (.int x) = .int x) (hfit : fits (am_tyf ci k) (.int x) = true) (hi : am_ty ci k = 0) (ha : hK h a = ci) (kk : Ev w Z u d (pc + 3) lv st (sI h a k x) Q) : Ev w Z u d pc lv (.int x :: .ref a :: st) h Q := Ev.put (v := .int x) hd hc hk hw hfin hn hfit hi ha kk
theorem Ev.putJ {ci k i a : Nat} {x : Int64} (hd : decode u.2.1 pc = .ok (.putfield i, 3)) (hc : ci < 11) (hk : k < am_n ci) (hw : Cond.fieldLink u.1.cls i (am_ct ci k).1 (am_ct ci k).2.1 (am_ct ci k).2.2.1 ∈ am_big) (hfin : (am_ct ci k).2.2.2 = false) (hn : narrow (am_tyf ci k) (.long x) = .long x) (hfit : fits (am_tyf ci k) (.long x) = true) (hi : am_ty ci k = 1) (ha : hK h a = ci) (kk : Ev w Z u d (pc + 3) lv st (sJ h a k x) Q) : Ev w Z u d pc lv (.long x :: .ref a :: st) h Q := Ev.put (v := .long x) hd hc hk hw hfin hn hfit hi ha kk
theorem Ev.putR {ci k i a x : Nat} (hd : decode u.2.1 pc = .ok (.putfield i, 3)) (hc : ci < 11) (hk : k < am_n ci) (hw : Cond.fieldLink u.1.cls i (am_ct ci k).1 (am_ct ci k).2.1 (am_ct ci k).2.2.1 ∈ am_big) (hfin : (am_ct ci k).2.2.2 = false) (hn : narrow (am_tyf ci k) (.ref x) = .ref x) (hfit : fits (am_tyf ci k) (.ref x) = true) (hi : am_ty ci k = 2) (hz : x ≠ 0) (ha : hK h a = ci) (kk : Ev w Z u d (pc + 3) lv st (sR h a k x) Q) : Ev w Z u d pc lv (.ref x :: .ref a :: st) h Q := Ev.put (v := .ref x) hd hc hk hw hfin hn hfit ⟨hi, hz⟩ ha kk
theorem Ev.putIF {ci k i a : Nat} {x : Int32} (hd : decode u.2.1 pc = .ok (.putfield i, 3)) (hc : ci < 11) (hk : k < am_n ci) (hw : Cond.fieldLink u.1.cls i (am_ct ci k).1 (am_ct ci k).2.1 (am_ct ci k).2.2.1 ∈ am_big) (hfin : (am_ct ci k).2.2.2 = true) (hin : u.1.name = "<init>") (hdecl : (am_ct ci k).1 = u.1.cls) (hn : narrow (am_tyf ci k) (.int x) = .int x) (hfit : fits (am_tyf ci k) (.int x) = true) (hi : am_ty ci k = 0) (ha : hK h a = ci) (kk : Ev w Z u d (pc + 3) lv st (sI h a k x) Q) : Ev w Z u d pc lv (.int x :: .ref a :: st) h Q := Ev.putF (v := .int x) hd hc hk hw hfin hin hdecl hn hfit hi ha kk
theorem Ev.putRF {ci k i a x : Nat} (hd : decode u.2.1 pc = .ok (.putfield i, 3)) (hc : ci < 11) (hk : k < am_n ci) (hw : Cond.fieldLink u.1.cls i (am_ct ci k).1 (am_ct ci k).2.1 (am_ct ci k).2.2.1 ∈ am_big) (hfin : (am_ct ci k).2.2.2 = true) (hin : u.1.name = "<init>") (hdecl : (am_ct ci k).1 = u.1.cls) (hn : narrow (am_tyf ci k) (.ref x) = .ref x) (hfit : fits (am_tyf ci k) (.ref x) = true) (hi : am_ty ci k = 2) (hz : x ≠ 0) (ha : hK h a = ci) (kk : Ev w Z u d (pc + 3) lv st (sR h a k x) Q) : Ev w Z u d pc lv (.ref x :: .ref a :: st) h Q := Ev.putF (v := .ref x) hd hc hk hw hfin hin hdecl hn hfit ⟨hi, hz⟩ ha kk
theorem Ev.iast' {a : Nat} {i x : Int32} (hd : decode u.2.1 pc = .ok (.iastore, 1)) (ha : hK h a = 12) (hin : vp_in i (hN h a)) (kk : ∀ h1 : am_H, h1 = sI h a i.toNatClampNeg x → Ev w Z u d (pc + 1) lv st h1 Q) : Ev w Z u d pc lv (.int x :: .int i :: .ref a :: st) h Q := Ev.iast hd ha hin (kk _ rfl)
theorem Ev.last' {a : Nat} {i : Int32} {x : Int64} (hd : decode u.2.1 pc = .ok (.lastore, 1)) (ha : hK h a = 13) (hin : vp_in i (hN h a)) (kk : ∀ h1 : am_H, h1 = sJ h a i.toNatClampNeg x → Ev w Z u d (pc + 1) lv st h1 Q) : Ev w Z u d pc lv (.long x :: .int i :: .ref a :: st) h Q := Ev.last hd ha hin (kk _ rfl)
theorem Ev.cast' {a : Nat} {i x : Int32} (hd : decode u.2.1 pc = .ok (.castore, 1)) (ha : hK h a = 11) (hin : vp_in i (hN h a)) (hn : narrow .char (.int x) = .int x) (kk : ∀ h1 : am_H, h1 = sI h a i.toNatClampNeg x → Ev w Z u d (pc + 1) lv st h1 Q) : Ev w Z u d pc lv (.int x :: .int i :: .ref a :: st) h Q := Ev.cast hd ha hin hn (kk _ rfl)
theorem Ev.zast' {a : Nat} {i x : Int32} (hd : decode u.2.1 pc = .ok (.bastore, 1)) (ha : hK h a = 14) (hin : vp_in i (hN h a)) (hn : narrow .boolean (.int x) = .int x) (kk : ∀ h1 : am_H, h1 = sI h a i.toNatClampNeg x → Ev w Z u d (pc + 1) lv st h1 Q) : Ev w Z u d pc lv (.int x :: .int i :: .ref a :: st) h Q := Ev.zast hd ha hin hn (kk _ rfl)
theorem Ev.aast' {a v : Nat} {i : Int32} (hd : decode u.2.1 pc = .ok (.aastore, 1)) (ha : hK h a = 15) (hin : vp_in i (hN h a)) (hv : hK h v = 7) (kk : ∀ h1 : am_H, h1 = sR h a i.toNatClampNeg v → Ev w Z u d (pc + 1) lv st h1 Q) : Ev w Z u d pc lv (.ref v :: .int i :: .ref a :: st) h Q := Ev.aast hd ha hin hv (kk _ rfl)
theorem Ev.newO' {ci i : Nat} (hd : decode u.2.1 pc = .ok (.new i, 3)) (hc : ci < 11) (hw : Cond.classLink u.1.cls i (am_cn ci) ∈ am_big) (hi : Cond.instantiable (am_cn ci) (am_n ci) ∈ am_big) (hn : Cond.initialized (am_cn ci) ∈ am_big) (kk : ∀ h1 : am_H, h1 = nO h ci (am_n ci) → Ev w Z u d (pc + 3) lv (.ref (hZ h) :: st) h1 Q) : Ev w Z u d pc lv st h Q := Ev.newO hd hc hw hi hn (kk _ rfl)
theorem Ev.newI' {n : Int32} {N : Nat} (hd : decode u.2.1 pc = .ok (.newarray .int, 2)) (hw : Cond.arrayClass .int ∈ am_big) (hn : ¬ n < 0) (hN' : n.toNatClampNeg = N) (hb : N ≤ 100000000) (kk : ∀ h1 : am_H, h1 = nA h 12 N → Ev w Z u d (pc + 2) lv (.ref (hZ h) :: st) h1 Q) : Ev w Z u d pc lv (.int n :: st) h Q := Ev.newI hd hw hn hN' hb (kk _ rfl)
theorem Ev.newJ' {n : Int32} {N : Nat} (hd : decode u.2.1 pc = .ok (.newarray .long, 2)) (hw : Cond.arrayClass .long ∈ am_big) (hn : ¬ n < 0) (hN' : n.toNatClampNeg = N) (hb : N ≤ 50000000) (kk : ∀ h1 : am_H, h1 = nA h 13 N → Ev w Z u d (pc + 2) lv (.ref (hZ h) :: st) h1 Q) : Ev w Z u d pc lv (.int n :: st) h Q := Ev.newJ hd hw hn hN' hb (kk _ rfl)
theorem Ev.newZ' {n : Int32} {N : Nat} (hd : decode u.2.1 pc = .ok (.newarray .boolean, 2)) (hw : Cond.arrayClass .boolean ∈ am_big) (hn : ¬ n < 0) (hN' : n.toNatClampNeg = N) (hb : N ≤ 100000000) (kk : ∀ h1 : am_H, h1 = nA h 14 N → Ev w Z u d (pc + 2) lv (.ref (hZ h) :: st) h1 Q) : Ev w Z u d pc lv (.int n :: st) h Q := Ev.newZ hd hw hn hN' hb (kk _ rfl)
theorem Ev.newC' {n : Int32} {N : Nat} (hd : decode u.2.1 pc = .ok (.newarray .char, 2)) (hw : Cond.arrayClass .char ∈ am_big) (hn : ¬ n < 0) (hN' : n.toNatClampNeg = N) (hb : N ≤ 100000000) (kk : ∀ h1 : am_H, h1 = nA h 11 N → Ev w Z u d (pc + 2) lv (.ref (hZ h) :: st) h1 Q) : Ev w Z u d pc lv (.int n :: st) h Q := Ev.newC hd hw hn hN' hb (kk _ rfl)
theorem Ev.newS' {i : Nat} {n : Int32} {N : Nat} (hd : decode u.2.1 pc = .ok (.anewarray i, 3)) (hw : Cond.classLink u.1.cls i "EvenFerry$State" ∈ am_big) (hao : ∀ s, w.2.2.2.2 s → va_AO "EvenFerry$State" s) (hn : ¬ n < 0) (hN' : n.toNatClampNeg = N) (hb : N ≤ 100000000) (kk : ∀ h1 : am_H, h1 = nA h 15 N → Ev w Z u d (pc + 3) lv (.ref (hZ h) :: st) h1 Q) : Ev w Z u d pc lv (.int n :: st) h Q := Ev.newS hd hw hao hn hN' hb (kk _ rfl)
theorem Ev.putI' {ci k i a : Nat} {x : Int32} (hd : decode u.2.1 pc = .ok (.putfield i, 3)) (hc : ci < 11) (hk : k < am_n ci) (hw : Cond.fieldLink u.1.cls i (am_ct ci k).1 (am_ct ci k).2.1 (am_ct ci k).2.2.1 ∈ am_big) (hfin : (am_ct ci k).2.2.2 = false) (hn : narrow (am_tyf ci k) (.int x) = .int x) (hfit : fits (am_tyf ci k) (.int x) = true) (hi : am_ty ci k = 0) (ha : hK h a = ci) (kk : ∀ h1 : am_H, h1 = sI h a k x → Ev w Z u d (pc + 3) lv st h1 Q) : Ev w Z u d pc lv (.int x :: .ref a :: st) h Q := Ev.putI hd hc hk hw hfin hn hfit hi ha (kk _ rfl)
theorem Ev.putJ' {ci k i a : Nat} {x : Int64} (hd : decode u.2.1 pc = .ok (.putfield i, 3)) (hc : ci < 11) (hk : k < am_n ci) (hw : Cond.fieldLink u.1.cls i (am_ct ci k).1 (am_ct ci k).2.1 (am_ct ci k).2.2.1 ∈ am_big) (hfin : (am_ct ci k).2.2.2 = false) (hn : narrow (am_tyf ci k) (.long x) = .long x) (hfit : fits (am_tyf ci k) (.long x) = true) (hi : am_ty ci k = 1) (ha : hK h a = ci) (kk : ∀ h1 : am_H, h1 = sJ h a k x → Ev w Z u d (pc + 3) lv st h1 Q) : Ev w Z u d pc lv (.long x :: .ref a :: st) h Q := Ev.putJ hd hc hk hw hfin hn hfit hi ha (kk _ rfl)
theorem Ev.putR' {ci k i a x : Nat} (hd : decode u.2.1 pc = .ok (.putfield i, 3)) (hc : ci < 11) (hk : k < am_n ci) (hw : Cond.fieldLink u.1.cls i (am_ct ci k).1 (am_ct ci k).2.1 (am_ct ci k).2.2.1 ∈ am_big) (hfin : (am_ct ci k).2.2.2 = false) (hn : narrow (am_tyf ci k) (.ref x) = .ref x) (hfit : fits (am_tyf ci k) (.ref x) = true) (hi : am_ty ci k = 2) (hz : x ≠ 0) (ha : hK h a = ci) (kk : ∀ h1 : am_H, h1 = sR h a k x → Ev w Z u d (pc + 3) lv st h1 Q) : Ev w Z u d pc lv (.ref x :: .ref a :: st) h Q := Ev.putR hd hc hk hw hfin hn hfit hi hz ha (kk _ rfl)
theorem Ev.putIF' {ci k i a : Nat} {x : Int32} (hd : decode u.2.1 pc = .ok (.putfield i, 3)) (hc : ci < 11) (hk : k < am_n ci) (hw : Cond.fieldLink u.1.cls i (am_ct ci k).1 (am_ct ci k).2.1 (am_ct ci k).2.2.1 ∈ am_big) (hfin : (am_ct ci k).2.2.2 = true) (hin : u.1.name = "<init>") (hdecl : (am_ct ci k).1 = u.1.cls) (hn : narrow (am_tyf ci k) (.int x) = .int x) (hfit : fits (am_tyf ci k) (.int x) = true) (hi : am_ty ci k = 0) (ha : hK h a = ci) (kk : ∀ h1 : am_H, h1 = sI h a k x → Ev w Z u d (pc + 3) lv st h1 Q) : Ev w Z u d pc lv (.int x :: .ref a :: st) h Q := Ev.putIF hd hc hk hw hfin hin hdecl hn hfit hi ha (kk _ rfl)
theorem Ev.putRF' {ci k i a x : Nat} (hd : decode u.2.1 pc = .ok (.putfield i, 3)) (hc : ci < 11) (hk : k < am_n ci) (hw : Cond.fieldLink u.1.cls i (am_ct ci k).1 (am_ct ci k).2.1 (am_ct ci k).2.2.1 ∈ am_big) (hfin : (am_ct ci k).2.2.2 = true) (hin : u.1.name = "<init>") (hdecl : (am_ct ci k).1 = u.1.cls) (hn : narrow (am_tyf ci k) (.ref x) = .ref x) (hfit : fits (am_tyf ci k) (.ref x) = true) (hi : am_ty ci k = 2) (hz : x ≠ 0) (ha : hK h a = ci) (kk : ∀ h1 : am_H, h1 = sR h a k x → Ev w Z u d (pc + 3) lv st h1 Q) : Ev w Z u d pc lv (.ref x :: .ref a :: st) h Q := Ev.putRF hd hc hk hw hfin hin hdecl hn hfit hi hz ha (kk _ rfl)
theorem Ev.mmax {i : Nat} {x y : Int32} (hl : Cond.methodLink u.1.cls i Lib.Math.max.name ∈ am_big) (hst : Cond.static Lib.Math.max.name ∈ am_big) (hini : Cond.initialized "java/lang/Math" ∈ am_big) (hc : Cond.code Lib.Math.max.name Lib.Math.max.code 2 (some .int) ∈ am_big) (hd : decode u.2.1 pc = .ok (.invokestatic i, 3)) (hrm : (st.map fun x => x.category).sum ≤ 8) (k : Ev w Z u (d + 1) (pc + 3) lv (.int (if x < y then y else x) :: st) h Q) : Ev w Z u (d + 1) pc lv (.int y :: .int x :: st) h Q := by
  obtain ⟨r, h', q, z, s', g⟩ := k
  refine ⟨r, h', q, z, s', fun p l e R s m args below meth c mc ms C H locs cells slots ls hR hl0 hf hcc hs => ?_⟩
  obtain ⟨hx, hb, -, -, hml, hown, -, hts, hKw, hfr, hlo, hmc, hms, -⟩ := id C
  exact va_mmax hx hb (hml.trans hl0.1.symm) hown (hts _ hl) (hts _ hst) (hts _ hini) (hts _ hc) (by omega) (by omega) (by omega) (by omega) hd (g p l e R s m args below meth c mc ms C H locs cells slots ls hR hl0 hf hcc hs)
theorem Ev.mmin {i : Nat} {x y : Int32} (hl : Cond.methodLink u.1.cls i Lib.Math.min.name ∈ am_big) (hst : Cond.static Lib.Math.min.name ∈ am_big) (hini : Cond.initialized "java/lang/Math" ∈ am_big) (hc : Cond.code Lib.Math.min.name Lib.Math.min.code 2 (some .int) ∈ am_big) (hd : decode u.2.1 pc = .ok (.invokestatic i, 3)) (hrm : (st.map fun x => x.category).sum ≤ 8) (k : Ev w Z u (d + 1) (pc + 3) lv (.int (if y < x then y else x) :: st) h Q) : Ev w Z u (d + 1) pc lv (.int y :: .int x :: st) h Q := by
  obtain ⟨r, h', q, z, s', g⟩ := k
  refine ⟨r, h', q, z, s', fun p l e R s m args below meth c mc ms C H locs cells slots ls hR hl0 hf hcc hs => ?_⟩
  obtain ⟨hx, hb, -, -, hml, hown, -, hts, hKw, hfr, hlo, hmc, hms, -⟩ := id C
  exact va_mmin hx hb (hml.trans hl0.1.symm) hown (hts _ hl) (hts _ hst) (hts _ hini) (hts _ hc) (by omega) (by omega) (by omega) (by omega) hd (g p l e R s m args below meth c mc ms C H locs cells slots ls hR hl0 hf hcc hs)
end PUTS
theorem kI {h h1 : am_H} {a k : Nat} {v : Int32} (e : h1 = sI h a k v) {b c : Nat} (f : hK h b = c) : hK h1 b = c := by rw [e]; exact f
theorem kJ {h h1 : am_H} {a k : Nat} {v : Int64} (e : h1 = sJ h a k v) {b c : Nat} (f : hK h b = c) : hK h1 b = c := by rw [e]; exact f
theorem kR {h h1 : am_H} {a k v : Nat} (e : h1 = sR h a k v) {b c : Nat} (f : hK h b = c) : hK h1 b = c := by rw [e]; exact f
end
section
def mX0_init : am_M := (yX0_init, cX0_init, 2, none)
def mX0_empty : am_M := (yX0_empty, cX0_empty, 1, none)
def mX0_join : am_M := (yX0_join, cX0_join, 3, none)
def mX0_leaveFirst : am_M := (yX0_leaveFirst, cX0_leaveFirst, 3, none)
def mX0_leave : am_M := (yX0_leave, cX0_leave, 5, none)
def mX0_size : am_M := (yX0_size, cX0_size, 1, (some .int))
def mX0_countWithGuests : am_M := (yX0_countWithGuests, cX0_countWithGuests, 1, (some .int))
def mX0_loadWithGuests : am_M := (yX0_loadWithGuests, cX0_loadWithGuests, 1, (some .int))
def mX1_init : am_M := (yX1_init, cX1_init, 1, none)
def mX1_weigh : am_M := (yX1_weigh, cX1_weigh, 7, none)
def mX1_seat : am_M := (yX1_seat, cX1_seat, 4, none)
def mX1_findCheapest : am_M := (yX1_findCheapest, cX1_findCheapest, 3, none)
def mX1_findResting : am_M := (yX1_findResting, cX1_findResting, 4, none)
def mX1_isAtRest : am_M := (yX1_isAtRest, cX1_isAtRest, 5, (some .boolean))
def mX2_init : am_M := (yX2_init, cX2_init, 3, none)
def mX2_add : am_M := (yX2_add, cX2_add, 6, none)
def mX2_timeAt : am_M := (yX2_timeAt, cX2_timeAt, 2, (some .int))
def mX3_init : am_M := (yX3_init, cX3_init, 4, none)
def mX3_begin : am_M := (yX3_begin, cX3_begin, 6, none)
def mX3_letGoHome : am_M := (yX3_letGoHome, cX3_letGoHome, 3, none)
def mX3_run : am_M := (yX3_run, cX3_run, 4, none)
def mX3_soonest : am_M := (yX3_soonest, cX3_soonest, 6, (some .int))
def mX3_firstHolding : am_M := (yX3_firstHolding, cX3_firstHolding, 4, (some .int))
def mX3_come : am_M := (yX3_come, cX3_come, 3, none)
def mX3_bankOf : am_M := (yX3_bankOf, cX3_bankOf, 2, (some (.object "EvenFerry$Bank")))
def mX3_wouldRing : am_M := (yX3_wouldRing, cX3_wouldRing, 2, (some .boolean))
def mX3_wouldRingWith : am_M := (yX3_wouldRingWith, cX3_wouldRingWith, 6, (some .boolean))
def mX3_freeBoat : am_M := (yX3_freeBoat, cX3_freeBoat, 3, (some .int))
def mX3_gatherFacts : am_M := (yX3_gatherFacts, cX3_gatherFacts, 2, none)
def mX3_earliest : am_M := (yX3_earliest, cX3_earliest, 5, (some .int))
def mX3_goOver : am_M := (yX3_goOver, cX3_goOver, 2, none)
def mX3_board : am_M := (yX3_board, cX3_board, 6, (some .int))
def mX3_misjudged : am_M := (yX3_misjudged, cX3_misjudged, 7, (some .int))
def mX3_isWaitingBehind : am_M := (yX3_isWaitingBehind, cX3_isWaitingBehind, 3, (some .boolean))
def mX3_waitOf : am_M := (yX3_waitOf, cX3_waitOf, 2, (some .int))
def mX3_longestWait : am_M := (yX3_longestWait, cX3_longestWait, 3, (some .int))
def mX3_costOf : am_M := (yX3_costOf, cX3_costOf, 2, (some .int))
def mX3_costWithout : am_M := (yX3_costWithout, cX3_costWithout, 4, (some .int))
def mX4_init : am_M := (yX4_init, cX4_init, 1, none)
def mX4_isKnown : am_M := (yX4_isKnown, cX4_isKnown, 3, (some .boolean))
def mX4_go : am_M := (yX4_go, cX4_go, 6, none)
def mX4_drawCrowd : am_M := (yX4_drawCrowd, cX4_drawCrowd, 4, none)
def mX4_draw : am_M := (yX4_draw, cX4_draw, 2, (some .int))
def mX4_addUp : am_M := (yX4_addUp, cX4_addUp, 4, none)
def mX5_init : am_M := (yX5_init, cX5_init, 3, none)
def mX5_read : am_M := (yX5_read, cX5_read, 3, (some .int))
def mX5_kind : am_M := (yX5_kind, cX5_kind, 1, (some .int))
def mX5_step : am_M := (yX5_step, cX5_step, 1, none)
def mX5_wrong : am_M := (yX5_wrong, cX5_wrong, 2, none)
def mX5_expect : am_M := (yX5_expect, cX5_expect, 2, none)
def mX5_number : am_M := (yX5_number, cX5_number, 4, (some .int))
def mX5_line : am_M := (yX5_line, cX5_line, 2, none)
def mX5_lineToldOnce : am_M := (yX5_lineToldOnce, cX5_lineToldOnce, 3, none)
def mX5_personLine : am_M := (yX5_personLine, cX5_personLine, 6, none)
def mX5_name : am_M := (yX5_name, cX5_name, 5, none)
def mX5_sideWord : am_M := (yX5_sideWord, cX5_sideWord, 2, (some .int))
def mX5_kindWord : am_M := (yX5_kindWord, cX5_kindWord, 2, (some .int))
def mX5_lawLine : am_M := (yX5_lawLine, cX5_lawLine, 1, none)
def mX5_write : am_M := (yX5_write, cX5_write, 2, none)
def mX5_chain : am_M := (yX5_chain, cX5_chain, 6, none)
def mX5_levelOf : am_M := (yX5_levelOf, cX5_levelOf, 1, (some .int))
def mX5_part : am_M := (yX5_part, cX5_part, 5, none)
def mX6_init : am_M := (yX6_init, cX6_init, 1, none)
def mX6_addPerson : am_M := (yX6_addPerson, cX6_addPerson, 7, none)
def mX6_countOf : am_M := (yX6_countOf, cX6_countOf, 1, (some .int))
def mX6_endLaw : am_M := (yX6_endLaw, cX6_endLaw, 2, none)
def mX6_isTimed : am_M := (yX6_isTimed, cX6_isTimed, 2, (some .boolean))
def mX6_lawValue : am_M := (yX6_lawValue, cX6_lawValue, 9, (some .int))
def mX6_joined : am_M := (yX6_joined, cX6_joined, 3, (some .int))
def mX7_init : am_M := (yX7_init, cX7_init, 2, none)
def mX7_start : am_M := (yX7_start, cX7_start, 2, none)
def mX7_take : am_M := (yX7_take, cX7_take, 3, none)
def mX7_addTold : am_M := (yX7_addTold, cX7_addTold, 3, (some .boolean))
def mX7_isTold : am_M := (yX7_isTold, cX7_isTold, 3, (some .boolean))
def mX8_init : am_M := (yX8_init, cX8_init, 1, none)
def mX8_append : am_M := (yX8_append, cX8_append, 6, none)
def mX8_cut : am_M := (yX8_cut, cX8_cut, 4, none)
def mX8_add : am_M := (yX8_add, cX8_add, 3, none)
def mX8_signAt : am_M := (yX8_signAt, cX8_signAt, 2, (some .char))
def mX8_isLetter : am_M := (yX8_isLetter, cX8_isLetter, 1, (some .boolean))
def mX8_isDigit : am_M := (yX8_isDigit, cX8_isDigit, 1, (some .boolean))
def mX8_endOfWord : am_M := (yX8_endOfWord, cX8_endOfWord, 3, (some .int))
def mX8_endOfNumber : am_M := (yX8_endOfNumber, cX8_endOfNumber, 3, (some .int))
def mX8_wordKind : am_M := (yX8_wordKind, cX8_wordKind, 4, (some .int))
def mX8_isWord : am_M := (yX8_isWord, cX8_isWord, 7, (some .boolean))
def mX8_nameKey : am_M := (yX8_nameKey, cX8_nameKey, 6, (some .long))
def mX8_numberValue : am_M := (yX8_numberValue, cX8_numberValue, 5, (some .int))
def mX9_init : am_M := (yX9_init, cX9_init, 3, none)
def mX9_feed : am_M := (yX9_feed, cX9_feed, 7, (some .int))
def mX9_river : am_M := (yX9_river, cX9_river, 2, (some .int))
def mX9_person : am_M := (yX9_person, cX9_person, 4, (some .int))
def mX9_use : am_M := (yX9_use, cX9_use, 2, (some .boolean))
def mX9_rings : am_M := (yX9_rings, cX9_rings, 1, (some .int))
def mX9_ring : am_M := (yX9_ring, cX9_ring, 3, (some .int))
def mX9_waits : am_M := (yX9_waits, cX9_waits, 3, (some .int))
def mX9_all : am_M := (yX9_all, cX9_all, 2, (some .int))
def mX9_bank : am_M := (yX9_bank, cX9_bank, 4, (some .int))
def mX9_send : am_M := (yX9_send, cX9_send, 5, (some .int))
def mX9_turn : am_M := (yX9_turn, cX9_turn, 3, (some .int))
def mX9_asks : am_M := (yX9_asks, cX9_asks, 6, (some .int))
def mX9_choice : am_M := (yX9_choice, cX9_choice, 2, (some .int))
def mX9_chosen : am_M := (yX9_chosen, cX9_chosen, 3, (some .int))
def mX9_rests : am_M := (yX9_rests, cX9_rests, 1, (some .int))
def mX9_rest : am_M := (yX9_rest, cX9_rest, 2, (some .int))
def mX9_tell : am_M := (yX9_tell, cX9_tell, 2, (some .int))
def mX9_clear : am_M := (yX9_clear, cX9_clear, 1, (some .boolean))
def mX9_judged : am_M := (yX9_judged, cX9_judged, 3, (some .int))
def mX9_likely : am_M := (yX9_likely, cX9_likely, 7, (some .long))
def mX9_mean : am_M := (yX9_mean, cX9_mean, 7, (some .long))
def mX9_came : am_M := (yX9_came, cX9_came, 2, (some .long))
def mX9_lots : am_M := (yX9_lots, cX9_lots, 4, (some .int))
def mX9_best : am_M := (yX9_best, cX9_best, 5, (some .int))
def mX9_mark : am_M := (yX9_mark, cX9_mark, 3, (some .boolean))
def mX9_count : am_M := (yX9_count, cX9_count, 3, (some .int))
def mX9_get : am_M := (yX9_get, cX9_get, 2, (some .int))
def mX9_set : am_M := (yX9_set, cX9_set, 3, none)
def mX9_isMinute : am_M := (yX9_isMinute, cX9_isMinute, 1, (some .boolean))
def mX9_isPerson : am_M := (yX9_isPerson, cX9_isPerson, 2, (some .boolean))
def mX9_forget : am_M := (yX9_forget, cX9_forget, 1, none)
def mX9_knowDay : am_M := (yX9_knowDay, cX9_knowDay, 2, none)
def mX9_beginTrial : am_M := (yX9_beginTrial, cX9_beginTrial, 3, none)
def mX9_nightBits : am_M := (yX9_nightBits, cX9_nightBits, 3, (some .int))
def mX9_waitsAt : am_M := (yX9_waitsAt, cX9_waitsAt, 4, (some .boolean))
def mX9_heads : am_M := (yX9_heads, cX9_heads, 5, (some .int))
def mX9_together : am_M := (yX9_together, cX9_together, 6, (some .int))
def mX9_mayTurn : am_M := (yX9_mayTurn, cX9_mayTurn, 3, (some .boolean))
def mX9_gainByTurning : am_M := (yX9_gainByTurning, cX9_gainByTurning, 3, (some .int))
def mX9_levels : am_M := (yX9_levels, cX9_levels, 14, (some .long))
def mX9_orders : am_M := (yX9_orders, cX9_orders, 4, (some .long))
def mX9_power : am_M := (yX9_power, cX9_power, 6, (some .long))
def mX9_lowest : am_M := (yX9_lowest, cX9_lowest, 13, (some .long))
def mX10_init : am_M := (yX10_init, cX10_init, 1, none)
def mX10_thrown : am_M := (yX10_thrown, cX10_thrown, 1, (some .int))
def mX10_within : am_M := (yX10_within, cX10_within, 3, (some .boolean))
def mX10_gcd : am_M := (yX10_gcd, cX10_gcd, 10, (some .long))
def mX10_feed : am_M := (yX10_feed, cX10_feed, 11, (some .int))
def mX10_signAt : am_M := (yX10_signAt, cX10_signAt, 2, (some .int))
def mX10_nextToken : am_M := (yX10_nextToken, cX10_nextToken, 2, none)
def mX10_isWord : am_M := (yX10_isWord, cX10_isWord, 3, (some .boolean))
def mX10_isSign : am_M := (yX10_isSign, cX10_isSign, 2, (some .boolean))
def mX10_fails : am_M := (yX10_fails, cX10_fails, 2, (some .boolean))
def mX10_starts0 : am_M := (yX10_starts0, cX10_starts0, 2, none)
def mX10_puts : am_M := (yX10_puts, cX10_puts, 2, none)
def mX10_fact : am_M := (yX10_fact, cX10_fact, 1, (some .int))
def mX10_reads : am_M := (yX10_reads, cX10_reads, 6, (some .boolean))
def mX10_opens : am_M := (yX10_opens, cX10_opens, 2, none)
def mX10_sums : am_M := (yX10_sums, cX10_sums, 2, none)
def mX10_tests : am_M := (yX10_tests, cX10_tests, 3, none)
def mX10_worked : am_M := (yX10_worked, cX10_worked, 6, (some .int))
def mX10_isKept : am_M := (yX10_isKept, cX10_isKept, 1, (some .boolean))
def mX10_needsNumber : am_M := (yX10_needsNumber, cX10_needsNumber, 3, (some .boolean))
def mX10_needsWord : am_M := (yX10_needsWord, cX10_needsWord, 3, (some .boolean))
def mX10_ends : am_M := (yX10_ends, cX10_ends, 1, (some .boolean))
def mX10_readsOne : am_M := (yX10_readsOne, cX10_readsOne, 4, (some .boolean))
def mX10_readsSide : am_M := (yX10_readsSide, cX10_readsSide, 1, (some .boolean))
def mX10_readsLaw : am_M := (yX10_readsLaw, cX10_readsLaw, 2, (some .boolean))
def mX10_kindAt : am_M := (yX10_kindAt, cX10_kindAt, 1, (some .int))
def mX10_choosers : am_M := (yX10_choosers, cX10_choosers, 4, (some .int))
def mX10_readsPerson : am_M := (yX10_readsPerson, cX10_readsPerson, 4, (some .boolean))
def mX10_readsAll : am_M := (yX10_readsAll, cX10_readsAll, 2, (some .boolean))
def mX10_moves : am_M := (yX10_moves, cX10_moves, 5, none)
def mX10_lays : am_M := (yX10_lays, cX10_lays, 4, none)
def mX10_river : am_M := (yX10_river, cX10_river, 1, (some .int))
def mX10_isPerson : am_M := (yX10_isPerson, cX10_isPerson, 2, (some .boolean))
def mX10_isMinute : am_M := (yX10_isMinute, cX10_isMinute, 1, (some .boolean))
def mX10_countOf : am_M := (yX10_countOf, cX10_countOf, 1, (some .int))
def mX10_person : am_M := (yX10_person, cX10_person, 3, (some .int))
def mX10_use : am_M := (yX10_use, cX10_use, 2, (some .boolean))
def mX10_joins : am_M := (yX10_joins, cX10_joins, 6, none)
def mX10_dawns : am_M := (yX10_dawns, cX10_dawns, 1, none)
def mX10_tellsAll : am_M := (yX10_tellsAll, cX10_tellsAll, 5, none)
def mX10_isWaiting : am_M := (yX10_isWaiting, cX10_isWaiting, 3, (some .boolean))
def mX10_wouldRing : am_M := (yX10_wouldRing, cX10_wouldRing, 4, (some .boolean))
def mX10_firstOf : am_M := (yX10_firstOf, cX10_firstOf, 5, (some .int))
def mX10_leaves : am_M := (yX10_leaves, cX10_leaves, 5, (some .int))
def mX10_ringsOnce : am_M := (yX10_ringsOnce, cX10_ringsOnce, 2, none)
def mX10_goesOn : am_M := (yX10_goesOn, cX10_goesOn, 4, none)
def mX10_day : am_M := (yX10_day, cX10_day, 2, none)
def mX10_waitOf : am_M := (yX10_waitOf, cX10_waitOf, 2, (some .int))
def mX10_costAll : am_M := (yX10_costAll, cX10_costAll, 4, (some .int))
def mX10_rings : am_M := (yX10_rings, cX10_rings, 1, (some .int))
def mX10_ring : am_M := (yX10_ring, cX10_ring, 3, (some .int))
def mX10_waits : am_M := (yX10_waits, cX10_waits, 3, (some .int))
def mX10_all : am_M := (yX10_all, cX10_all, 5, (some .int))
def mX10_waitsBehind : am_M := (yX10_waitsBehind, cX10_waitsBehind, 3, (some .boolean))
def mX10_bank : am_M := (yX10_bank, cX10_bank, 6, (some .int))
def mX10_ringsBy : am_M := (yX10_ringsBy, cX10_ringsBy, 6, (some .boolean))
def mX10_send : am_M := (yX10_send, cX10_send, 5, (some .int))
def mX10_canTurn : am_M := (yX10_canTurn, cX10_canTurn, 3, (some .boolean))
def mX10_turns : am_M := (yX10_turns, cX10_turns, 4, (some .int))
def mX10_turn : am_M := (yX10_turn, cX10_turn, 3, (some .int))
def mX10_asks : am_M := (yX10_asks, cX10_asks, 6, (some .int))
def mX10_choices : am_M := (yX10_choices, cX10_choices, 5, (some .int))
def mX10_choice : am_M := (yX10_choice, cX10_choice, 5, (some .int))
def mX10_chosen : am_M := (yX10_chosen, cX10_chosen, 2, (some .int))
def mX10_isRest : am_M := (yX10_isRest, cX10_isRest, 3, (some .boolean))
def mX10_rests : am_M := (yX10_rests, cX10_rests, 4, (some .int))
def mX10_rest : am_M := (yX10_rest, cX10_rest, 5, (some .int))
def mX10_tell : am_M := (yX10_tell, cX10_tell, 3, (some .int))
def mX10_clear : am_M := (yX10_clear, cX10_clear, 1, (some .boolean))
def mX10_judged : am_M := (yX10_judged, cX10_judged, 5, (some .int))
def mX10_firsts : am_M := (yX10_firsts, cX10_firsts, 4, (some .long))
def mX10_chance : am_M := (yX10_chance, cX10_chance, 5, (some .long))
def mX10_likely : am_M := (yX10_likely, cX10_likely, 8, (some .long))
def mX10_mean : am_M := (yX10_mean, cX10_mean, 8, (some .long))
def mX10_came : am_M := (yX10_came, cX10_came, 2, (some .long))
def mX10_draws : am_M := (yX10_draws, cX10_draws, 2, (some .int))
def mX10_lots : am_M := (yX10_lots, cX10_lots, 11, (some .int))
def mX10_best : am_M := (yX10_best, cX10_best, 6, (some .int))
def mX10_mark : am_M := (yX10_mark, cX10_mark, 3, (some .boolean))
def mX10_count : am_M := (yX10_count, cX10_count, 2, (some .int))
def tX0_init : List (Nat × Instr × Nat) := [(0, .aload_n 0, 1), (1, .invokespecial 3, 3), (4, .aload_n 0, 1), (5, .iconst 0, 1), (6, .iload_n 1, 1), (7, .invokestatic 9, 3), (10, .newarray .int, 2), (12, .putfield 15, 3), (15, .return_, 1)]
set_option maxRecDepth 100000 in
theorem kX0_init : tX0_init.all (fun q => decide (decode cX0_init q.1 = .ok q.2)) = true := by decide +kernel
def tX0_empty : List (Nat × Instr × Nat) := [(0, .aload_n 0, 1), (1, .iconst 0, 1), (2, .putfield 21, 3), (5, .aload_n 0, 1), (6, .iconst 0, 1), (7, .putfield 25, 3), (10, .aload_n 0, 1), (11, .iconst 0, 1), (12, .putfield 28, 3), (15, .aload_n 0, 1), (16, .iconst 0, 1), (17, .putfield 31, 3), (20, .aload_n 0, 1), (21, .iconst 0, 1), (22, .putfield 34, 3), (25, .return_, 1)]
set_option maxRecDepth 100000 in
theorem kX0_empty : tX0_empty.all (fun q => decide (decode cX0_empty q.1 = .ok q.2)) = true := by decide +kernel
def tX0_join : List (Nat × Instr × Nat) := [(0, .aload_n 0, 1), (1, .getfield 15, 3), (4, .aload_n 0, 1), (5, .getfield 25, 3), (8, .iload_n 1, 1), (9, .invokestatic 37, 3), (12, .aload_n 0, 1), (13, .dup, 1), (14, .getfield 25, 3), (17, .iconst 1, 1), (18, .iadd, 1), (19, .putfield 25, 3), (22, .aload_n 0, 1), (23, .dup, 1), (24, .getfield 28, 3), (27, .aload_n 2, 1), (28, .getfield 41, 3), (31, .iload_n 1, 1), (32, .invokestatic 45, 3), (35, .iadd, 1), (36, .putfield 28, 3), (39, .aload_n 0, 1), (40, .dup, 1), (41, .getfield 31, 3), (44, .aload_n 2, 1), (45, .getfield 49, 3), (48, .iload_n 1, 1), (49, .invokestatic 45, 3), (52, .iadd, 1), (53, .putfield 31, 3), (56, .return_, 1)]
set_option maxRecDepth 100000 in
theorem kX0_join : tX0_join.all (fun q => decide (decode cX0_join q.1 = .ok q.2)) = true := by decide +kernel
def tX0_leaveFirst : List (Nat × Instr × Nat) := [(0, .aload_n 0, 1), (1, .getfield 15, 3), (4, .aload_n 0, 1), (5, .getfield 21, 3), (8, .invokestatic 45, 3), (11, .istore_n 2, 1), (12, .aload_n 0, 1), (13, .dup, 1), (14, .getfield 21, 3), (17, .iconst 1, 1), (18, .iadd, 1), (19, .putfield 21, 3), (22, .aload_n 0, 1), (23, .dup, 1), (24, .getfield 28, 3), (27, .aload_n 1, 1), (28, .getfield 41, 3), (31, .iload_n 2, 1), (32, .invokestatic 45, 3), (35, .isub, 1), (36, .putfield 28, 3), (39, .aload_n 0, 1), (40, .dup, 1), (41, .getfield 31, 3), (44, .aload_n 1, 1), (45, .getfield 49, 3), (48, .iload_n 2, 1), (49, .invokestatic 45, 3), (52, .isub, 1), (53, .putfield 31, 3), (56, .return_, 1)]
set_option maxRecDepth 100000 in
theorem kX0_leaveFirst : tX0_leaveFirst.all (fun q => decide (decode cX0_leaveFirst q.1 = .ok q.2)) = true := by decide +kernel
def tX0_leave : List (Nat × Instr × Nat) := [(0, .aload_n 0, 1), (1, .getfield 25, 3), (4, .iconst 1, 1), (5, .isub, 1), (6, .istore_n 3, 1), (7, .iload_n 3, 1), (8, .aload_n 0, 1), (9, .getfield 21, 3), (12, .if_icmp .lt 77, 3), (15, .aload_n 0, 1), (16, .getfield 15, 3), (19, .iload_n 3, 1), (20, .invokestatic 45, 3), (23, .iload_n 1, 1), (24, .if_icmp .ne 59, 3), (27, .iload_n 3, 1), (28, .istore 4, 2), (30, .iload 4, 2), (32, .aload_n 0, 1), (33, .getfield 21, 3), (36, .if_icmp .le 29, 3), (39, .aload_n 0, 1), (40, .getfield 15, 3), (43, .iload 4, 2), (45, .aload_n 0, 1), (46, .getfield 15, 3), (49, .iload 4, 2), (51, .iconst 1, 1), (52, .isub, 1), (53, .invokestatic 45, 3), (56, .invokestatic 37, 3), (59, .iinc 4 (-1), 3), (62, .goto (-32), 3), (65, .aload_n 0, 1), (66, .getfield 15, 3), (69, .aload_n 0, 1), (70, .getfield 21, 3), (73, .iload_n 1, 1), (74, .invokestatic 37, 3), (77, .aload_n 0, 1), (78, .aload_n 2, 1), (79, .invokevirtual 52, 3), (82, .return_, 1), (83, .iinc 3 (-1), 3), (86, .goto (-79), 3), (89, .return_, 1)]
set_option maxRecDepth 100000 in
theorem kX0_leave : tX0_leave.all (fun q => decide (decode cX0_leave q.1 = .ok q.2)) = true := by decide +kernel
def tX0_size : List (Nat × Instr × Nat) := [(0, .aload_n 0, 1), (1, .getfield 25, 3), (4, .aload_n 0, 1), (5, .getfield 21, 3), (8, .isub, 1), (9, .aload_n 0, 1), (10, .getfield 34, 3), (13, .iadd, 1), (14, .ireturn, 1)]
set_option maxRecDepth 100000 in
theorem kX0_size : tX0_size.all (fun q => decide (decode cX0_size q.1 = .ok q.2)) = true := by decide +kernel
def tX0_countWithGuests : List (Nat × Instr × Nat) := [(0, .aload_n 0, 1), (1, .getfield 28, 3), (4, .aload_n 0, 1), (5, .getfield 34, 3), (8, .iconst 2, 1), (9, .imul, 1), (10, .iadd, 1), (11, .ireturn, 1)]
set_option maxRecDepth 100000 in
theorem kX0_countWithGuests : tX0_countWithGuests.all (fun q => decide (decode cX0_countWithGuests q.1 = .ok q.2)) = true := by decide +kernel
def tX0_loadWithGuests : List (Nat × Instr × Nat) := [(0, .aload_n 0, 1), (1, .getfield 31, 3), (4, .aload_n 0, 1), (5, .getfield 34, 3), (8, .bipush 70, 2), (10, .imul, 1), (11, .iadd, 1), (12, .ireturn, 1)]
set_option maxRecDepth 100000 in
theorem kX0_loadWithGuests : tX0_loadWithGuests.all (fun q => decide (decode cX0_loadWithGuests q.1 = .ok q.2)) = true := by decide +kernel
def tX1_init : List (Nat × Instr × Nat) := [(0, .aload_n 0, 1), (1, .invokespecial 3, 3), (4, .aload_n 0, 1), (5, .sipush 256, 3), (8, .newarray .int, 2), (10, .putfield 9, 3), (13, .aload_n 0, 1), (14, .sipush 2048, 3), (17, .newarray .int, 2), (19, .putfield 15, 3), (22, .aload_n 0, 1), (23, .sipush 256, 3), (26, .newarray .int, 2), (28, .putfield 18, 3), (31, .aload_n 0, 1), (32, .bipush 16, 2), (34, .newarray .int, 2), (36, .putfield 21, 3), (39, .return_, 1)]
set_option maxRecDepth 100000 in
theorem kX1_init : tX1_init.all (fun q => decide (decode cX1_init q.1 = .ok q.2)) = true := by decide +kernel
def tX1_weigh : List (Nat × Instr × Nat) := [(0, .aload_n 0, 1), (1, .getfield 24, 3), (4, .ifCond .eq 4, 3), (7, .return_, 1), (8, .aload_n 1, 1), (9, .getfield 28, 3), (12, .astore_n 3, 1), (13, .sipush 256, 3), (16, .iconst 1, 1), (17, .aload_n 3, 1), (18, .getfield 34, 3), (21, .ishl, 1), (22, .invokestatic 40, 3), (25, .istore 4, 2), (27, .iconst 0, 1), (28, .istore 5, 2), (30, .iload 5, 2), (32, .iload 4, 2), (34, .if_icmp .ge 100, 3), (37, .aload_n 0, 1), (38, .aload_n 3, 1), (39, .iload 5, 2), (41, .invokevirtual 46, 3), (44, .aload_n 2, 1), (45, .aload_n 3, 1), (46, .aload_n 1, 1), (47, .getfield 50, 3), (50, .aload_n 3, 1), (51, .getfield 53, 3), (54, .aload_n 0, 1), (55, .getfield 21, 3), (58, .invokevirtual 57, 3), (61, .aload_n 2, 1), (62, .sipush 1440, 3), (65, .invokevirtual 63, 3), (68, .aload_n 0, 1), (69, .getfield 9, 3), (72, .iload 5, 2), (74, .aload_n 2, 1), (75, .iconst (-1), 1), (76, .invokevirtual 67, 3), (79, .invokestatic 71, 3), (82, .iconst 0, 1), (83, .istore 6, 2), (85, .iload 6, 2), (87, .aload_n 3, 1), (88, .getfield 34, 3), (91, .if_icmp .ge 37, 3), (94, .aload_n 0, 1), (95, .getfield 15, 3), (98, .iload 5, 2), (100, .bipush 8, 2), (102, .imul, 1), (103, .iload 6, 2), (105, .iadd, 1), (106, .aload_n 2, 1), (107, .aload_n 3, 1), (108, .getfield 75, 3), (111, .iload 6, 2), (113, .invokestatic 78, 3), (116, .invokevirtual 82, 3), (119, .invokestatic 71, 3), (122, .iinc 6 1, 3), (125, .goto (-40), 3), (128, .iinc 5 1, 3), (131, .goto (-101), 3), (134, .aload_n 0, 1), (135, .iload 4, 2), (137, .invokevirtual 85, 3), (140, .aload_n 0, 1), (141, .iload 4, 2), (143, .aload_n 3, 1), (144, .getfield 34, 3), (147, .invokevirtual 88, 3), (150, .aload_n 0, 1), (151, .iconst 1, 1), (152, .putfield 24, 3), (155, .return_, 1)]
set_option maxRecDepth 100000 in
theorem kX1_weigh : tX1_weigh.all (fun q => decide (decode cX1_weigh q.1 = .ok q.2)) = true := by decide +kernel
def tX1_seat : List (Nat × Instr × Nat) := [(0, .iconst 0, 1), (1, .istore_n 3, 1), (2, .iload_n 3, 1), (3, .aload_n 1, 1), (4, .getfield 53, 3), (7, .getfield 92, 3), (10, .if_icmp .ge 28, 3), (13, .aload_n 0, 1), (14, .getfield 21, 3), (17, .iload_n 3, 1), (18, .aload_n 1, 1), (19, .getfield 53, 3), (22, .getfield 97, 3), (25, .iload_n 3, 1), (26, .invokestatic 78, 3), (29, .invokestatic 71, 3), (32, .iinc 3 1, 3), (35, .goto (-33), 3), (38, .iconst 0, 1), (39, .istore_n 3, 1), (40, .iload_n 3, 1), (41, .aload_n 1, 1), (42, .getfield 34, 3), (45, .if_icmp .ge 29, 3), (48, .aload_n 0, 1), (49, .getfield 21, 3), (52, .aload_n 1, 1), (53, .getfield 75, 3), (56, .iload_n 3, 1), (57, .invokestatic 78, 3), (60, .iload_n 2, 1), (61, .iload_n 3, 1), (62, .ishr, 1), (63, .iconst 1, 1), (64, .iand, 1), (65, .invokestatic 71, 3), (68, .iinc 3 1, 3), (71, .goto (-31), 3), (74, .return_, 1)]
set_option maxRecDepth 100000 in
theorem kX1_seat : tX1_seat.all (fun q => decide (decode cX1_seat q.1 = .ok q.2)) = true := by decide +kernel
def tX1_findCheapest : List (Nat × Instr × Nat) := [(0, .aload_n 0, 1), (1, .iconst 0, 1), (2, .putfield 98, 3), (5, .iconst 1, 1), (6, .istore_n 2, 1), (7, .iload_n 2, 1), (8, .iload_n 1, 1), (9, .if_icmp .ge 36, 3), (12, .aload_n 0, 1), (13, .getfield 9, 3), (16, .iload_n 2, 1), (17, .invokestatic 78, 3), (20, .aload_n 0, 1), (21, .getfield 9, 3), (24, .aload_n 0, 1), (25, .getfield 98, 3), (28, .invokestatic 78, 3), (31, .if_icmp .ge 8, 3), (34, .aload_n 0, 1), (35, .iload_n 2, 1), (36, .putfield 98, 3), (39, .iinc 2 1, 3), (42, .goto (-35), 3), (45, .return_, 1)]
set_option maxRecDepth 100000 in
theorem kX1_findCheapest : tX1_findCheapest.all (fun q => decide (decode cX1_findCheapest q.1 = .ok q.2)) = true := by decide +kernel
def tX1_findResting : List (Nat × Instr × Nat) := [(0, .aload_n 0, 1), (1, .iconst 0, 1), (2, .putfield 101, 3), (5, .iconst 0, 1), (6, .istore_n 3, 1), (7, .iload_n 3, 1), (8, .iload_n 1, 1), (9, .if_icmp .ge 40, 3), (12, .aload_n 0, 1), (13, .iload_n 3, 1), (14, .iload_n 2, 1), (15, .invokevirtual 104, 3), (18, .ifCond .eq 25, 3), (21, .aload_n 0, 1), (22, .getfield 18, 3), (25, .aload_n 0, 1), (26, .getfield 101, 3), (29, .iload_n 3, 1), (30, .invokestatic 71, 3), (33, .aload_n 0, 1), (34, .dup, 1), (35, .getfield 101, 3), (38, .iconst 1, 1), (39, .iadd, 1), (40, .putfield 101, 3), (43, .iinc 3 1, 3), (46, .goto (-39), 3), (49, .return_, 1)]
set_option maxRecDepth 100000 in
theorem kX1_findResting : tX1_findResting.all (fun q => decide (decode cX1_findResting q.1 = .ok q.2)) = true := by decide +kernel
def tX1_isAtRest : List (Nat × Instr × Nat) := [(0, .iconst 0, 1), (1, .istore_n 3, 1), (2, .iload_n 3, 1), (3, .iload_n 2, 1), (4, .if_icmp .ge 48, 3), (7, .iload_n 1, 1), (8, .iconst 1, 1), (9, .iload_n 3, 1), (10, .ishl, 1), (11, .ixor, 1), (12, .istore 4, 2), (14, .aload_n 0, 1), (15, .getfield 15, 3), (18, .iload 4, 2), (20, .bipush 8, 2), (22, .imul, 1), (23, .iload_n 3, 1), (24, .iadd, 1), (25, .invokestatic 78, 3), (28, .aload_n 0, 1), (29, .getfield 15, 3), (32, .iload_n 1, 1), (33, .bipush 8, 2), (35, .imul, 1), (36, .iload_n 3, 1), (37, .iadd, 1), (38, .invokestatic 78, 3), (41, .if_icmp .ge 5, 3), (44, .iconst 0, 1), (45, .ireturn, 1), (46, .iinc 3 1, 3), (49, .goto (-47), 3), (52, .iconst 1, 1), (53, .ireturn, 1)]
set_option maxRecDepth 100000 in
theorem kX1_isAtRest : tX1_isAtRest.all (fun q => decide (decode cX1_isAtRest q.1 = .ok q.2)) = true := by decide +kernel
def tX2_init : List (Nat × Instr × Nat) := [(0, .aload_n 0, 1), (1, .invokespecial 1, 3), (4, .iconst 0, 1), (5, .iload_n 1, 1), (6, .invokestatic 7, 3), (9, .istore_n 2, 1), (10, .aload_n 0, 1), (11, .iload_n 2, 1), (12, .newarray .int, 2), (14, .putfield 13, 3), (17, .aload_n 0, 1), (18, .iload_n 2, 1), (19, .newarray .int, 2), (21, .putfield 19, 3), (24, .aload_n 0, 1), (25, .iload_n 2, 1), (26, .newarray .int, 2), (28, .putfield 22, 3), (31, .aload_n 0, 1), (32, .iload_n 2, 1), (33, .newarray .int, 2), (35, .putfield 25, 3), (38, .aload_n 0, 1), (39, .iload_n 2, 1), (40, .newarray .int, 2), (42, .putfield 28, 3), (45, .return_, 1)]
set_option maxRecDepth 100000 in
theorem kX2_init : tX2_init.all (fun q => decide (decode cX2_init q.1 = .ok q.2)) = true := by decide +kernel
def tX2_add : List (Nat × Instr × Nat) := [(0, .aload_n 0, 1), (1, .getfield 31, 3), (4, .aload_n 0, 1), (5, .getfield 28, 3), (8, .arraylength, 1), (9, .if_icmp .lt 4, 3), (12, .return_, 1), (13, .aload_n 0, 1), (14, .getfield 13, 3), (17, .aload_n 0, 1), (18, .getfield 31, 3), (21, .iload_n 1, 1), (22, .invokestatic 35, 3), (25, .aload_n 0, 1), (26, .getfield 19, 3), (29, .aload_n 0, 1), (30, .getfield 31, 3), (33, .iload_n 2, 1), (34, .invokestatic 35, 3), (37, .aload_n 0, 1), (38, .getfield 22, 3), (41, .aload_n 0, 1), (42, .getfield 31, 3), (45, .iload_n 3, 1), (46, .invokestatic 35, 3), (49, .aload_n 0, 1), (50, .getfield 25, 3), (53, .aload_n 0, 1), (54, .getfield 31, 3), (57, .iload 4, 2), (59, .invokestatic 35, 3), (62, .aload_n 0, 1), (63, .getfield 31, 3), (66, .istore 5, 2), (68, .iload 5, 2), (70, .ifCond .le 51, 3), (73, .aload_n 0, 1), (74, .getfield 13, 3), (77, .aload_n 0, 1), (78, .getfield 28, 3), (81, .iload 5, 2), (83, .iconst 1, 1), (84, .isub, 1), (85, .invokestatic 41, 3), (88, .invokestatic 41, 3), (91, .iload_n 1, 1), (92, .if_icmp .le 29, 3), (95, .aload_n 0, 1), (96, .getfield 28, 3), (99, .iload 5, 2), (101, .aload_n 0, 1), (102, .getfield 28, 3), (105, .iload 5, 2), (107, .iconst 1, 1), (108, .isub, 1), (109, .invokestatic 41, 3), (112, .invokestatic 35, 3), (115, .iinc 5 (-1), 3), (118, .goto (-50), 3), (121, .aload_n 0, 1), (122, .getfield 28, 3), (125, .iload 5, 2), (127, .aload_n 0, 1), (128, .getfield 31, 3), (131, .invokestatic 35, 3), (134, .aload_n 0, 1), (135, .dup, 1), (136, .getfield 31, 3), (139, .iconst 1, 1), (140, .iadd, 1), (141, .putfield 31, 3), (144, .return_, 1)]
set_option maxRecDepth 100000 in
theorem kX2_add : tX2_add.all (fun q => decide (decode cX2_add q.1 = .ok q.2)) = true := by decide +kernel
def tX2_timeAt : List (Nat × Instr × Nat) := [(0, .aload_n 0, 1), (1, .getfield 13, 3), (4, .aload_n 0, 1), (5, .getfield 28, 3), (8, .iload_n 1, 1), (9, .invokestatic 41, 3), (12, .invokestatic 41, 3), (15, .ireturn, 1)]
set_option maxRecDepth 100000 in
theorem kX2_timeAt : tX2_timeAt.all (fun q => decide (decode cX2_timeAt q.1 = .ok q.2)) = true := by decide +kernel
def tX3_init : List (Nat × Instr × Nat) := [(0, .aload_n 0, 1), (1, .invokespecial 3, 3), (4, .aload_n 0, 1), (5, .iconst 2, 1), (6, .newarray .int, 2), (8, .putfield 9, 3), (11, .aload_n 0, 1), (12, .bipush 6, 2), (14, .newarray .int, 2), (16, .putfield 15, 3), (19, .aload_n 0, 1), (20, .bipush 32, 2), (22, .newarray .int, 2), (24, .putfield 18, 3), (27, .iconst 0, 1), (28, .iload_n 2, 1), (29, .invokestatic 21, 3), (32, .istore_n 3, 1), (33, .aload_n 0, 1), (34, .new 27, 3), (37, .dup, 1), (38, .iload_n 3, 1), (39, .invokespecial 29, 3), (42, .putfield 32, 3), (45, .aload_n 0, 1), (46, .new 27, 3), (49, .dup, 1), (50, .iload_n 3, 1), (51, .invokespecial 29, 3), (54, .putfield 36, 3), (57, .aload_n 0, 1), (58, .iload_n 3, 1), (59, .newarray .int, 2), (61, .putfield 39, 3), (64, .aload_n 0, 1), (65, .iload_n 3, 1), (66, .newarray .int, 2), (68, .putfield 42, 3), (71, .aload_n 0, 1), (72, .iload_n 3, 1), (73, .newarray .int, 2), (75, .putfield 45, 3), (78, .aload_n 0, 1), (79, .iload_n 3, 1), (80, .newarray .int, 2), (82, .putfield 48, 3), (85, .aload_n 0, 1), (86, .iload_n 3, 1), (87, .newarray .int, 2), (89, .putfield 51, 3), (92, .aload_n 0, 1), (93, .aload_n 1, 1), (94, .putfield 54, 3), (97, .aload_n 0, 1), (98, .aload_n 1, 1), (99, .getfield 58, 3), (102, .putfield 64, 3), (105, .aload_n 0, 1), (106, .aload_n 1, 1), (107, .getfield 58, 3), (110, .getfield 67, 3), (113, .putfield 72, 3), (116, .return_, 1)]
set_option maxRecDepth 100000 in
theorem kX3_init : tX3_init.all (fun q => decide (decode cX3_init q.1 = .ok q.2)) = true := by decide +kernel
def tX3_begin : List (Nat × Instr × Nat) := [(0, .aload_n 0, 1), (1, .aload_n 1, 1), (2, .putfield 54, 3), (5, .aload_n 0, 1), (6, .iload_n 2, 1), (7, .putfield 73, 3), (10, .aload_n 0, 1), (11, .aload_n 3, 1), (12, .putfield 64, 3), (15, .aload_n 0, 1), (16, .aload 4, 2), (18, .putfield 72, 3), (21, .iconst 0, 1), (22, .istore 5, 2), (24, .iload 5, 2), (26, .aload_n 3, 1), (27, .getfield 77, 3), (30, .if_icmp .ge 31, 3), (33, .aload_n 0, 1), (34, .getfield 39, 3), (37, .iload 5, 2), (39, .sipush 1440, 3), (42, .invokestatic 80, 3), (45, .aload_n 0, 1), (46, .getfield 42, 3), (49, .iload 5, 2), (51, .iconst (-1), 1), (52, .invokestatic 80, 3), (55, .iinc 5 1, 3), (58, .goto (-34), 3), (61, .aload_n 0, 1), (62, .getfield 9, 3), (65, .iconst 0, 1), (66, .iconst 0, 1), (67, .invokestatic 80, 3), (70, .aload_n 0, 1), (71, .getfield 9, 3), (74, .iconst 1, 1), (75, .iconst 0, 1), (76, .invokestatic 80, 3), (79, .aload_n 0, 1), (80, .getfield 32, 3), (83, .invokevirtual 84, 3), (86, .aload_n 0, 1), (87, .getfield 36, 3), (90, .invokevirtual 84, 3), (93, .aload_n 0, 1), (94, .iconst 0, 1), (95, .putfield 87, 3), (98, .aload_n 0, 1), (99, .iconst 0, 1), (100, .putfield 90, 3), (103, .aload_n 0, 1), (104, .iconst (-1), 1), (105, .putfield 93, 3), (108, .aload_n 0, 1), (109, .sipush 1440, 3), (112, .putfield 96, 3), (115, .return_, 1)]
set_option maxRecDepth 100000 in
theorem kX3_begin : tX3_begin.all (fun q => decide (decode cX3_begin q.1 = .ok q.2)) = true := by decide +kernel
def tX3_letGoHome : List (Nat × Instr × Nat) := [(0, .aload_n 0, 1), (1, .iload_n 1, 1), (2, .putfield 93, 3), (5, .aload_n 0, 1), (6, .iload_n 2, 1), (7, .iconst 1, 1), (8, .iadd, 1), (9, .putfield 96, 3), (12, .return_, 1)]
set_option maxRecDepth 100000 in
theorem kX3_letGoHome : tX3_letGoHome.all (fun q => decide (decode cX3_letGoHome q.1 = .ok q.2)) = true := by decide +kernel
def tX3_run : List (Nat × Instr × Nat) := [(0, .iconst 0, 1), (1, .istore_n 2, 1), (2, .iload_n 2, 1), (3, .iload_n 1, 1), (4, .if_icmp .ge 93, 3), (7, .iload_n 2, 1), (8, .aload_n 0, 1), (9, .getfield 96, 3), (12, .if_icmp .ne 33, 3), (15, .aload_n 0, 1), (16, .getfield 32, 3), (19, .aload_n 0, 1), (20, .getfield 93, 3), (23, .aload_n 0, 1), (24, .getfield 64, 3), (27, .invokevirtual 99, 3), (30, .aload_n 0, 1), (31, .getfield 36, 3), (34, .aload_n 0, 1), (35, .getfield 93, 3), (38, .aload_n 0, 1), (39, .getfield 64, 3), (42, .invokevirtual 99, 3), (45, .aload_n 0, 1), (46, .iload_n 2, 1), (47, .invokevirtual 103, 3), (50, .iconst 0, 1), (51, .istore_n 3, 1), (52, .iload_n 3, 1), (53, .aload_n 0, 1), (54, .getfield 64, 3), (57, .getfield 77, 3), (60, .if_icmp .ge 22, 3), (63, .aload_n 0, 1), (64, .iload_n 2, 1), (65, .invokevirtual 106, 3), (68, .ifCond .eq 14, 3), (71, .aload_n 0, 1), (72, .iload_n 2, 1), (73, .invokevirtual 110, 3), (76, .iinc 3 1, 3), (79, .goto (-27), 3), (82, .iload_n 2, 1), (83, .iconst 1, 1), (84, .iadd, 1), (85, .aload_n 0, 1), (86, .iload_n 2, 1), (87, .invokevirtual 113, 3), (90, .invokestatic 21, 3), (93, .istore_n 2, 1), (94, .goto (-92), 3), (97, .return_, 1)]
set_option maxRecDepth 100000 in
theorem kX3_run : tX3_run.all (fun q => decide (decode cX3_run q.1 = .ok q.2)) = true := by decide +kernel
def tX3_soonest : List (Nat × Instr × Nat) := [(0, .aload_n 0, 1), (1, .getfield 96, 3), (4, .iload_n 1, 1), (5, .if_icmp .le 10, 3), (8, .aload_n 0, 1), (9, .getfield 96, 3), (12, .goto 6, 3), (15, .sipush 1440, 3), (18, .istore_n 2, 1), (19, .aload_n 0, 1), (20, .getfield 90, 3), (23, .aload_n 0, 1), (24, .getfield 64, 3), (27, .getfield 77, 3), (30, .if_icmp .ge 19, 3), (33, .iload_n 2, 1), (34, .aload_n 0, 1), (35, .getfield 64, 3), (38, .aload_n 0, 1), (39, .getfield 90, 3), (42, .invokevirtual 117, 3), (45, .invokestatic 120, 3), (48, .istore_n 2, 1), (49, .iconst 0, 1), (50, .istore_n 3, 1), (51, .iconst 0, 1), (52, .istore 4, 2), (54, .iload 4, 2), (56, .aload_n 0, 1), (57, .getfield 54, 3), (60, .getfield 123, 3), (63, .if_icmp .ge 53, 3), (66, .aload_n 0, 1), (67, .getfield 9, 3), (70, .iload 4, 2), (72, .invokestatic 126, 3), (75, .istore 5, 2), (77, .iload_n 3, 1), (78, .ifCond .ne 9, 3), (81, .iload 5, 2), (83, .iload_n 1, 1), (84, .if_icmp .gt 7, 3), (87, .iconst 1, 1), (88, .goto 4, 3), (91, .iconst 0, 1), (92, .istore_n 3, 1), (93, .iload 5, 2), (95, .iload_n 1, 1), (96, .if_icmp .le 12, 3), (99, .iload_n 2, 1), (100, .iload 5, 2), (102, .invokestatic 120, 3), (105, .goto 4, 3), (108, .iload_n 2, 1), (109, .istore_n 2, 1), (110, .iinc 4 1, 3), (113, .goto (-59), 3), (116, .iload_n 3, 1), (117, .ifCond .eq 39, 3), (120, .aload_n 0, 1), (121, .getfield 54, 3), (124, .aload_n 0, 1), (125, .getfield 73, 3), (128, .invokevirtual 130, 3), (131, .ifCond .eq 25, 3), (134, .aload_n 0, 1), (135, .getfield 32, 3), (138, .invokevirtual 133, 3), (141, .aload_n 0, 1), (142, .getfield 36, 3), (145, .invokevirtual 133, 3), (148, .iadd, 1), (149, .ifCond .le 7, 3), (152, .iconst 1, 1), (153, .goto 4, 3), (156, .iconst 0, 1), (157, .istore 4, 2), (159, .iload 4, 2), (161, .ifCond .eq 14, 3), (164, .aload_n 0, 1), (165, .iload_n 1, 1), (166, .iconst 1, 1), (167, .iadd, 1), (168, .iload_n 2, 1), (169, .invokevirtual 136, 3), (172, .goto 4, 3), (175, .iload_n 2, 1), (176, .ireturn, 1)]
set_option maxRecDepth 100000 in
theorem kX3_soonest : tX3_soonest.all (fun q => decide (decode cX3_soonest q.1 = .ok q.2)) = true := by decide +kernel
def tX3_firstHolding : List (Nat × Instr × Nat) := [(0, .aload_n 0, 1), (1, .iload_n 1, 1), (2, .invokevirtual 139, 3), (5, .iload_n 1, 1), (6, .istore_n 3, 1), (7, .iload_n 3, 1), (8, .iload_n 2, 1), (9, .if_icmp .ge 62, 3), (12, .aload_n 0, 1), (13, .getfield 54, 3), (16, .aload_n 0, 1), (17, .getfield 73, 3), (20, .aload_n 0, 1), (21, .getfield 15, 3), (24, .aload_n 0, 1), (25, .getfield 18, 3), (28, .invokevirtual 142, 3), (31, .ifCond .eq 5, 3), (34, .iload_n 3, 1), (35, .ireturn, 1), (36, .aload_n 0, 1), (37, .getfield 15, 3), (40, .iconst 4, 1), (41, .aload_n 0, 1), (42, .getfield 15, 3), (45, .iconst 4, 1), (46, .invokestatic 126, 3), (49, .iconst 1, 1), (50, .iadd, 1), (51, .invokestatic 80, 3), (54, .aload_n 0, 1), (55, .getfield 15, 3), (58, .iconst 5, 1), (59, .iload_n 3, 1), (60, .iconst 1, 1), (61, .iadd, 1), (62, .invokestatic 80, 3), (65, .iinc 3 1, 3), (68, .goto (-61), 3), (71, .iload_n 2, 1), (72, .ireturn, 1)]
set_option maxRecDepth 100000 in
theorem kX3_firstHolding : tX3_firstHolding.all (fun q => decide (decode cX3_firstHolding q.1 = .ok q.2)) = true := by decide +kernel
def tX3_come : List (Nat × Instr × Nat) := [(0, .aload_n 0, 1), (1, .getfield 90, 3), (4, .aload_n 0, 1), (5, .getfield 64, 3), (8, .getfield 77, 3), (11, .if_icmp .ge 66, 3), (14, .aload_n 0, 1), (15, .getfield 64, 3), (18, .aload_n 0, 1), (19, .getfield 90, 3), (22, .invokevirtual 117, 3), (25, .iload_n 1, 1), (26, .if_icmp .gt 51, 3), (29, .aload_n 0, 1), (30, .getfield 64, 3), (33, .getfield 146, 3), (36, .aload_n 0, 1), (37, .getfield 90, 3), (40, .invokestatic 126, 3), (43, .istore_n 2, 1), (44, .aload_n 0, 1), (45, .aload_n 0, 1), (46, .getfield 72, 3), (49, .iload_n 2, 1), (50, .invokestatic 126, 3), (53, .invokevirtual 149, 3), (56, .iload_n 2, 1), (57, .aload_n 0, 1), (58, .getfield 64, 3), (61, .invokevirtual 153, 3), (64, .aload_n 0, 1), (65, .dup, 1), (66, .getfield 90, 3), (69, .iconst 1, 1), (70, .iadd, 1), (71, .putfield 90, 3), (74, .goto (-74), 3), (77, .return_, 1)]
set_option maxRecDepth 100000 in
theorem kX3_come : tX3_come.all (fun q => decide (decode cX3_come q.1 = .ok q.2)) = true := by decide +kernel
def tX3_bankOf : List (Nat × Instr × Nat) := [(0, .iload_n 1, 1), (1, .ifCond .ne 10, 3), (4, .aload_n 0, 1), (5, .getfield 32, 3), (8, .goto 7, 3), (11, .aload_n 0, 1), (12, .getfield 36, 3), (15, .areturn, 1)]
set_option maxRecDepth 100000 in
theorem kX3_bankOf : tX3_bankOf.all (fun q => decide (decode cX3_bankOf q.1 = .ok q.2)) = true := by decide +kernel
def tX3_wouldRing : List (Nat × Instr × Nat) := [(0, .aload_n 0, 1), (1, .getfield 32, 3), (4, .invokevirtual 133, 3), (7, .aload_n 0, 1), (8, .getfield 36, 3), (11, .invokevirtual 133, 3), (14, .iadd, 1), (15, .ifCond .eq 12, 3), (18, .aload_n 0, 1), (19, .iload_n 1, 1), (20, .invokevirtual 156, 3), (23, .iconst (-1), 1), (24, .if_icmp .ne 5, 3), (27, .iconst 0, 1), (28, .ireturn, 1), (29, .aload_n 0, 1), (30, .iload_n 1, 1), (31, .invokevirtual 139, 3), (34, .aload_n 0, 1), (35, .getfield 54, 3), (38, .aload_n 0, 1), (39, .getfield 73, 3), (42, .aload_n 0, 1), (43, .getfield 15, 3), (46, .aload_n 0, 1), (47, .getfield 18, 3), (50, .invokevirtual 142, 3), (53, .ifCond .eq 7, 3), (56, .iconst 1, 1), (57, .goto 4, 3), (60, .iconst 0, 1), (61, .ireturn, 1)]
set_option maxRecDepth 100000 in
theorem kX3_wouldRing : tX3_wouldRing.all (fun q => decide (decode cX3_wouldRing q.1 = .ok q.2)) = true := by decide +kernel
def tX3_wouldRingWith : List (Nat × Instr × Nat) := [(0, .aload_n 0, 1), (1, .iload_n 1, 1), (2, .invokevirtual 149, 3), (5, .astore 4, 2), (7, .aload 4, 2), (9, .iload_n 2, 1), (10, .putfield 159, 3), (13, .aload_n 0, 1), (14, .iload_n 3, 1), (15, .invokevirtual 106, 3), (18, .istore 5, 2), (20, .aload 4, 2), (22, .iconst 0, 1), (23, .putfield 159, 3), (26, .iload 5, 2), (28, .ireturn, 1)]
set_option maxRecDepth 100000 in
theorem kX3_wouldRingWith : tX3_wouldRingWith.all (fun q => decide (decode cX3_wouldRingWith q.1 = .ok q.2)) = true := by decide +kernel
def tX3_freeBoat : List (Nat × Instr × Nat) := [(0, .iconst 0, 1), (1, .istore_n 2, 1), (2, .iload_n 2, 1), (3, .aload_n 0, 1), (4, .getfield 54, 3), (7, .getfield 123, 3), (10, .if_icmp .ge 23, 3), (13, .aload_n 0, 1), (14, .getfield 9, 3), (17, .iload_n 2, 1), (18, .invokestatic 126, 3), (21, .iload_n 1, 1), (22, .if_icmp .gt 5, 3), (25, .iload_n 2, 1), (26, .ireturn, 1), (27, .iinc 2 1, 3), (30, .goto (-28), 3), (33, .iconst (-1), 1), (34, .ireturn, 1)]
set_option maxRecDepth 100000 in
theorem kX3_freeBoat : tX3_freeBoat.all (fun q => decide (decode cX3_freeBoat q.1 = .ok q.2)) = true := by decide +kernel
def tX3_gatherFacts : List (Nat × Instr × Nat) := [(0, .aload_n 0, 1), (1, .getfield 15, 3), (4, .iconst 0, 1), (5, .aload_n 0, 1), (6, .getfield 32, 3), (9, .invokevirtual 162, 3), (12, .invokestatic 80, 3), (15, .aload_n 0, 1), (16, .getfield 15, 3), (19, .iconst 1, 1), (20, .aload_n 0, 1), (21, .getfield 36, 3), (24, .invokevirtual 162, 3), (27, .invokestatic 80, 3), (30, .aload_n 0, 1), (31, .getfield 15, 3), (34, .iconst 2, 1), (35, .aload_n 0, 1), (36, .getfield 32, 3), (39, .invokevirtual 165, 3), (42, .invokestatic 80, 3), (45, .aload_n 0, 1), (46, .getfield 15, 3), (49, .iconst 3, 1), (50, .aload_n 0, 1), (51, .getfield 36, 3), (54, .invokevirtual 165, 3), (57, .invokestatic 80, 3), (60, .aload_n 0, 1), (61, .getfield 15, 3), (64, .iconst 4, 1), (65, .iload_n 1, 1), (66, .aload_n 0, 1), (67, .aload_n 0, 1), (68, .getfield 32, 3), (71, .iload_n 1, 1), (72, .invokevirtual 168, 3), (75, .aload_n 0, 1), (76, .aload_n 0, 1), (77, .getfield 36, 3), (80, .iload_n 1, 1), (81, .invokevirtual 168, 3), (84, .invokestatic 120, 3), (87, .isub, 1), (88, .invokestatic 80, 3), (91, .aload_n 0, 1), (92, .getfield 15, 3), (95, .iconst 5, 1), (96, .iload_n 1, 1), (97, .invokestatic 80, 3), (100, .return_, 1)]
set_option maxRecDepth 100000 in
theorem kX3_gatherFacts : tX3_gatherFacts.all (fun q => decide (decode cX3_gatherFacts q.1 = .ok q.2)) = true := by decide +kernel
def tX3_earliest : List (Nat × Instr × Nat) := [(0, .aload_n 1, 1), (1, .getfield 172, 3), (4, .ifCond .lt 30, 3), (7, .aload_n 1, 1), (8, .getfield 172, 3), (11, .aload_n 1, 1), (12, .getfield 175, 3), (15, .if_icmp .ge 19, 3), (18, .aload_n 1, 1), (19, .getfield 172, 3), (22, .aload_n 1, 1), (23, .getfield 178, 3), (26, .arraylength, 1), (27, .if_icmp .ge 7, 3), (30, .iconst 1, 1), (31, .goto 4, 3), (34, .iconst 0, 1), (35, .istore_n 3, 1), (36, .iload_n 3, 1), (37, .ifCond .eq 15, 3), (40, .aload_n 1, 1), (41, .getfield 178, 3), (44, .aload_n 1, 1), (45, .getfield 172, 3), (48, .iaload, 1), (49, .goto 4, 3), (52, .iconst (-1), 1), (53, .istore 4, 2), (55, .iload 4, 2), (57, .ifCond .lt 29, 3), (60, .iload 4, 2), (62, .aload_n 0, 1), (63, .getfield 64, 3), (66, .getfield 181, 3), (69, .arraylength, 1), (70, .if_icmp .ge 16, 3), (73, .aload_n 0, 1), (74, .getfield 64, 3), (77, .getfield 181, 3), (80, .iload 4, 2), (82, .iaload, 1), (83, .goto 4, 3), (86, .iload_n 2, 1), (87, .ireturn, 1)]
set_option maxRecDepth 100000 in
theorem kX3_earliest : tX3_earliest.all (fun q => decide (decode cX3_earliest q.1 = .ok q.2)) = true := by decide +kernel
def tX3_goOver : List (Nat × Instr × Nat) := [(0, .aload_n 0, 1), (1, .getfield 9, 3), (4, .aload_n 0, 1), (5, .iload_n 1, 1), (6, .invokevirtual 156, 3), (9, .iload_n 1, 1), (10, .aload_n 0, 1), (11, .getfield 54, 3), (14, .getfield 184, 3), (17, .iadd, 1), (18, .invokestatic 80, 3), (21, .aload_n 0, 1), (22, .getfield 45, 3), (25, .aload_n 0, 1), (26, .getfield 87, 3), (29, .iload_n 1, 1), (30, .invokestatic 80, 3), (33, .aload_n 0, 1), (34, .getfield 48, 3), (37, .aload_n 0, 1), (38, .getfield 87, 3), (41, .aload_n 0, 1), (42, .aload_n 0, 1), (43, .getfield 32, 3), (46, .iload_n 1, 1), (47, .invokevirtual 187, 3), (50, .invokestatic 80, 3), (53, .aload_n 0, 1), (54, .getfield 51, 3), (57, .aload_n 0, 1), (58, .getfield 87, 3), (61, .aload_n 0, 1), (62, .aload_n 0, 1), (63, .getfield 36, 3), (66, .iload_n 1, 1), (67, .invokevirtual 187, 3), (70, .invokestatic 80, 3), (73, .aload_n 0, 1), (74, .dup, 1), (75, .getfield 87, 3), (78, .iconst 1, 1), (79, .iadd, 1), (80, .putfield 87, 3), (83, .return_, 1)]
set_option maxRecDepth 100000 in
theorem kX3_goOver : tX3_goOver.all (fun q => decide (decode cX3_goOver q.1 = .ok q.2)) = true := by decide +kernel
def tX3_board : List (Nat × Instr × Nat) := [(0, .aload_n 0, 1), (1, .getfield 54, 3), (4, .getfield 190, 3), (7, .aload_n 1, 1), (8, .getfield 175, 3), (11, .aload_n 1, 1), (12, .getfield 172, 3), (15, .isub, 1), (16, .invokestatic 120, 3), (19, .istore_n 3, 1), (20, .iconst 0, 1), (21, .istore 4, 2), (23, .iload 4, 2), (25, .iload_n 3, 1), (26, .if_icmp .ge 53, 3), (29, .aload_n 1, 1), (30, .getfield 178, 3), (33, .aload_n 1, 1), (34, .getfield 172, 3), (37, .invokestatic 126, 3), (40, .istore 5, 2), (42, .aload_n 0, 1), (43, .getfield 39, 3), (46, .iload 5, 2), (48, .iload_n 2, 1), (49, .invokestatic 80, 3), (52, .aload_n 0, 1), (53, .getfield 42, 3), (56, .iload 5, 2), (58, .aload_n 0, 1), (59, .getfield 87, 3), (62, .invokestatic 80, 3), (65, .aload_n 1, 1), (66, .aload_n 0, 1), (67, .getfield 64, 3), (70, .invokevirtual 193, 3), (73, .iinc 4 1, 3), (76, .goto (-53), 3), (79, .iload_n 3, 1), (80, .ireturn, 1)]
set_option maxRecDepth 100000 in
theorem kX3_board : tX3_board.all (fun q => decide (decode cX3_board q.1 = .ok q.2)) = true := by decide +kernel
def tX3_misjudged : List (Nat × Instr × Nat) := [(0, .iconst 0, 1), (1, .istore_n 3, 1), (2, .iconst 0, 1), (3, .istore 5, 2), (5, .iload 5, 2), (7, .sipush 1440, 3), (10, .if_icmp .ge 104, 3), (13, .aload_n 0, 1), (14, .iload 5, 2), (16, .invokevirtual 103, 3), (19, .iload_n 3, 1), (20, .iload_n 2, 1), (21, .if_icmp .ge 17, 3), (24, .aload_n 1, 1), (25, .iload_n 3, 1), (26, .invokestatic 126, 3), (29, .iload 5, 2), (31, .if_icmp .ne 7, 3), (34, .iconst 1, 1), (35, .goto 4, 3), (38, .iconst 0, 1), (39, .istore 6, 2), (41, .iload 6, 2), (43, .aload_n 0, 1), (44, .iload 5, 2), (46, .invokevirtual 106, 3), (49, .if_icmp .eq 6, 3), (52, .iload 5, 2), (54, .ireturn, 1), (55, .aload_n 0, 1), (56, .iload 5, 2), (58, .invokevirtual 113, 3), (61, .istore 4, 2), (63, .iload 6, 2), (65, .ifCond .eq 18, 3), (68, .aload_n 0, 1), (69, .iload 5, 2), (71, .invokevirtual 110, 3), (74, .iinc 3 1, 3), (77, .iload 5, 2), (79, .iconst 1, 1), (80, .iadd, 1), (81, .istore 4, 2), (83, .iload_n 3, 1), (84, .iload_n 2, 1), (85, .if_icmp .ge 15, 3), (88, .iload 4, 2), (90, .aload_n 1, 1), (91, .iload_n 3, 1), (92, .invokestatic 126, 3), (95, .invokestatic 120, 3), (98, .istore 4, 2), (100, .iload 5, 2), (102, .iconst 1, 1), (103, .iadd, 1), (104, .iload 4, 2), (106, .invokestatic 21, 3), (109, .istore 5, 2), (111, .goto (-106), 3), (114, .iconst (-1), 1), (115, .ireturn, 1)]
set_option maxRecDepth 100000 in
theorem kX3_misjudged : tX3_misjudged.all (fun q => decide (decode cX3_misjudged q.1 = .ok q.2)) = true := by decide +kernel
def tX3_isWaitingBehind : List (Nat × Instr × Nat) := [(0, .aload_n 0, 1), (1, .getfield 64, 3), (4, .getfield 181, 3), (7, .iload_n 1, 1), (8, .invokestatic 126, 3), (11, .iload_n 2, 1), (12, .if_icmp .gt 19, 3), (15, .aload_n 0, 1), (16, .getfield 39, 3), (19, .iload_n 1, 1), (20, .invokestatic 126, 3), (23, .iload_n 2, 1), (24, .if_icmp .le 7, 3), (27, .iconst 1, 1), (28, .goto 4, 3), (31, .iconst 0, 1), (32, .ireturn, 1)]
set_option maxRecDepth 100000 in
theorem kX3_isWaitingBehind : tX3_isWaitingBehind.all (fun q => decide (decode cX3_isWaitingBehind q.1 = .ok q.2)) = true := by decide +kernel
def tX3_waitOf : List (Nat × Instr × Nat) := [(0, .aload_n 0, 1), (1, .getfield 39, 3), (4, .iload_n 1, 1), (5, .invokestatic 126, 3), (8, .aload_n 0, 1), (9, .getfield 64, 3), (12, .getfield 181, 3), (15, .iload_n 1, 1), (16, .invokestatic 126, 3), (19, .isub, 1), (20, .ireturn, 1)]
set_option maxRecDepth 100000 in
theorem kX3_waitOf : tX3_waitOf.all (fun q => decide (decode cX3_waitOf q.1 = .ok q.2)) = true := by decide +kernel
def tX3_longestWait : List (Nat × Instr × Nat) := [(0, .iconst 0, 1), (1, .istore_n 1, 1), (2, .iconst 0, 1), (3, .istore_n 2, 1), (4, .iload_n 2, 1), (5, .aload_n 0, 1), (6, .getfield 64, 3), (9, .getfield 77, 3), (12, .if_icmp .ge 19, 3), (15, .iload_n 1, 1), (16, .aload_n 0, 1), (17, .iload_n 2, 1), (18, .invokevirtual 197, 3), (21, .invokestatic 21, 3), (24, .istore_n 1, 1), (25, .iinc 2 1, 3), (28, .goto (-24), 3), (31, .iload_n 1, 1), (32, .ireturn, 1)]
set_option maxRecDepth 100000 in
theorem kX3_longestWait : tX3_longestWait.all (fun q => decide (decode cX3_longestWait q.1 = .ok q.2)) = true := by decide +kernel
def tX3_costOf : List (Nat × Instr × Nat) := [(0, .aload_n 0, 1), (1, .getfield 54, 3), (4, .getfield 200, 3), (7, .iload_n 1, 1), (8, .invokestatic 126, 3), (11, .aload_n 0, 1), (12, .iload_n 1, 1), (13, .invokevirtual 197, 3), (16, .imul, 1), (17, .ireturn, 1)]
set_option maxRecDepth 100000 in
theorem kX3_costOf : tX3_costOf.all (fun q => decide (decode cX3_costOf q.1 = .ok q.2)) = true := by decide +kernel
def tX3_costWithout : List (Nat × Instr × Nat) := [(0, .iconst 0, 1), (1, .istore_n 2, 1), (2, .iconst 0, 1), (3, .istore_n 3, 1), (4, .iload_n 3, 1), (5, .aload_n 0, 1), (6, .getfield 64, 3), (9, .getfield 77, 3), (12, .if_icmp .ge 26, 3), (15, .iload_n 2, 1), (16, .iload_n 3, 1), (17, .iload_n 1, 1), (18, .if_icmp .ne 7, 3), (21, .iconst 0, 1), (22, .goto 8, 3), (25, .aload_n 0, 1), (26, .iload_n 3, 1), (27, .invokevirtual 203, 3), (30, .iadd, 1), (31, .istore_n 2, 1), (32, .iinc 3 1, 3), (35, .goto (-31), 3), (38, .iload_n 2, 1), (39, .ireturn, 1)]
set_option maxRecDepth 100000 in
theorem kX3_costWithout : tX3_costWithout.all (fun q => decide (decode cX3_costWithout q.1 = .ok q.2)) = true := by decide +kernel
def tX4_init : List (Nat × Instr × Nat) := [(0, .aload_n 0, 1), (1, .invokespecial 3, 3), (4, .aload_n 0, 1), (5, .new 9, 3), (8, .dup, 1), (9, .sipush 300, 3), (12, .invokespecial 11, 3), (15, .putfield 14, 3), (18, .return_, 1)]
set_option maxRecDepth 100000 in
theorem kX4_init : tX4_init.all (fun q => decide (decode cX4_init q.1 = .ok q.2)) = true := by decide +kernel
def tX4_isKnown : List (Nat × Instr × Nat) := [(0, .aload_n 0, 1), (1, .getfield 20, 3), (4, .ifCond .eq 23, 3), (7, .aload_n 0, 1), (8, .getfield 24, 3), (11, .iload_n 1, 1), (12, .if_icmp .ne 15, 3), (15, .aload_n 0, 1), (16, .getfield 28, 3), (19, .iload_n 2, 1), (20, .if_icmp .ne 7, 3), (23, .iconst 1, 1), (24, .goto 4, 3), (27, .iconst 0, 1), (28, .ireturn, 1)]
set_option maxRecDepth 100000 in
theorem kX4_isKnown : tX4_isKnown.all (fun q => decide (decode cX4_isKnown q.1 = .ok q.2)) = true := by decide +kernel
def tX4_go : List (Nat × Instr × Nat) := [(0, .aload_n 0, 1), (1, .iload_n 3, 1), (2, .i2l, 1), (3, .putfield 31, 3), (6, .aload_n 0, 1), (7, .iconst 0, 1), (8, .putfield 35, 3), (11, .aload_n 0, 1), (12, .iconst 0, 1), (13, .putfield 38, 3), (16, .aload_n 0, 1), (17, .iconst 0, 1), (18, .putfield 41, 3), (21, .aload_n 0, 1), (22, .iconst 0, 1), (23, .putfield 44, 3), (26, .aload_n 0, 1), (27, .iconst 0, 1), (28, .putfield 47, 3), (31, .iconst 0, 1), (32, .istore 5, 2), (34, .iload 5, 2), (36, .iload 4, 2), (38, .if_icmp .ge 52, 3), (41, .aload_n 0, 1), (42, .aload_n 1, 1), (43, .getfield 50, 3), (46, .invokevirtual 56, 3), (49, .aload_n 2, 1), (50, .aload_n 1, 1), (51, .getfield 50, 3), (54, .aload_n 1, 1), (55, .getfield 60, 3), (58, .aload_n 0, 1), (59, .getfield 14, 3), (62, .aload_n 0, 1), (63, .getfield 14, 3), (66, .getfield 63, 3), (69, .invokevirtual 67, 3), (72, .aload_n 2, 1), (73, .sipush 1440, 3), (76, .invokevirtual 73, 3), (79, .aload_n 0, 1), (80, .aload_n 2, 1), (81, .invokevirtual 76, 3), (84, .iinc 5 1, 3), (87, .goto (-53), 3), (90, .aload_n 0, 1), (91, .iconst 1, 1), (92, .putfield 20, 3), (95, .aload_n 0, 1), (96, .iload_n 3, 1), (97, .putfield 24, 3), (100, .aload_n 0, 1), (101, .iload 4, 2), (103, .putfield 28, 3), (106, .return_, 1)]
set_option maxRecDepth 100000 in
theorem kX4_go : tX4_go.all (fun q => decide (decode cX4_go q.1 = .ok q.2)) = true := by decide +kernel
def tX4_drawCrowd : List (Nat × Instr × Nat) := [(0, .aload_n 0, 1), (1, .getfield 14, 3), (4, .iconst 0, 1), (5, .putfield 80, 3), (8, .iconst 0, 1), (9, .istore_n 2, 1), (10, .iload_n 2, 1), (11, .sipush 1440, 3), (14, .if_icmp .ge 69, 3), (17, .aload_n 0, 1), (18, .getfield 14, 3), (21, .getfield 80, 3), (24, .sipush 300, 3), (27, .if_icmp .ge 56, 3), (30, .aload_n 0, 1), (31, .sipush 1000, 3), (34, .invokevirtual 83, 3), (37, .aload_n 1, 1), (38, .getfield 87, 3), (41, .if_icmp .ge 36, 3), (44, .aload_n 0, 1), (45, .aload_n 1, 1), (46, .getfield 92, 3), (49, .invokevirtual 83, 3), (52, .aload_n 1, 1), (53, .getfield 95, 3), (56, .if_icmp .ge 7, 3), (59, .iconst 0, 1), (60, .goto 4, 3), (63, .iconst 1, 1), (64, .istore_n 3, 1), (65, .aload_n 0, 1), (66, .getfield 14, 3), (69, .iload_n 2, 1), (70, .iload_n 3, 1), (71, .bipush 70, 2), (73, .iconst 2, 1), (74, .invokevirtual 98, 3), (77, .iinc 2 1, 3), (80, .goto (-70), 3), (83, .return_, 1)]
set_option maxRecDepth 100000 in
theorem kX4_drawCrowd : tX4_drawCrowd.all (fun q => decide (decode cX4_drawCrowd q.1 = .ok q.2)) = true := by decide +kernel
def tX4_draw : List (Nat × Instr × Nat) := [(0, .aload_n 0, 1), (1, .aload_n 0, 1), (2, .getfield 31, 3), (5, .ldc2_w 102, 3), (8, .lmul, 1), (9, .ldc2_w 104, 3), (12, .ladd, 1), (13, .ldc2_w 106, 3), (16, .lrem, 1), (17, .putfield 31, 3), (20, .iload_n 1, 1), (21, .ifCond .le 18, 3), (24, .aload_n 0, 1), (25, .getfield 31, 3), (28, .ldc2_w 108, 3), (31, .ldiv, 1), (32, .iload_n 1, 1), (33, .i2l, 1), (34, .lrem, 1), (35, .l2i, 1), (36, .goto 4, 3), (39, .iconst 0, 1), (40, .ireturn, 1)]
set_option maxRecDepth 100000 in
theorem kX4_draw : tX4_draw.all (fun q => decide (decode cX4_draw q.1 = .ok q.2)) = true := by decide +kernel
def tX4_addUp : List (Nat × Instr × Nat) := [(0, .aload_n 0, 1), (1, .dup, 1), (2, .getfield 35, 3), (5, .aload_n 1, 1), (6, .getfield 110, 3), (9, .iadd, 1), (10, .putfield 35, 3), (13, .aload_n 0, 1), (14, .dup, 1), (15, .getfield 38, 3), (18, .aload_n 0, 1), (19, .getfield 14, 3), (22, .getfield 80, 3), (25, .iadd, 1), (26, .putfield 38, 3), (29, .iconst 0, 1), (30, .istore_n 2, 1), (31, .iload_n 2, 1), (32, .aload_n 0, 1), (33, .getfield 14, 3), (36, .getfield 80, 3), (39, .if_icmp .ge 63, 3), (42, .aload_n 1, 1), (43, .iload_n 2, 1), (44, .invokevirtual 111, 3), (47, .istore_n 3, 1), (48, .aload_n 0, 1), (49, .dup, 1), (50, .getfield 41, 3), (53, .iload_n 3, 1), (54, .iadd, 1), (55, .putfield 41, 3), (58, .aload_n 0, 1), (59, .aload_n 0, 1), (60, .getfield 47, 3), (63, .iload_n 3, 1), (64, .invokestatic 114, 3), (67, .putfield 47, 3), (70, .aload_n 0, 1), (71, .dup, 1), (72, .getfield 44, 3), (75, .aload_n 1, 1), (76, .getfield 120, 3), (79, .iload_n 2, 1), (80, .invokestatic 123, 3), (83, .iconst (-1), 1), (84, .if_icmp .ne 7, 3), (87, .iconst 1, 1), (88, .goto 4, 3), (91, .iconst 0, 1), (92, .iadd, 1), (93, .putfield 44, 3), (96, .iinc 2 1, 3), (99, .goto (-68), 3), (102, .return_, 1)]
set_option maxRecDepth 100000 in
theorem kX4_addUp : tX4_addUp.all (fun q => decide (decode cX4_addUp q.1 = .ok q.2)) = true := by decide +kernel
def tX5_init : List (Nat × Instr × Nat) := [(0, .aload_n 0, 1), (1, .invokespecial 3, 3), (4, .aload_n 0, 1), (5, .bipush 16, 2), (7, .newarray .long, 2), (9, .putfield 9, 3), (12, .aload_n 0, 1), (13, .sipush 1000, 3), (16, .newarray .int, 2), (18, .putfield 15, 3), (21, .aload_n 0, 1), (22, .aload_n 1, 1), (23, .putfield 19, 3), (26, .aload_n 0, 1), (27, .aload_n 2, 1), (28, .putfield 23, 3), (31, .return_, 1)]
set_option maxRecDepth 100000 in
theorem kX5_init : tX5_init.all (fun q => decide (decode cX5_init q.1 = .ok q.2)) = true := by decide +kernel
def tX5_read : List (Nat × Instr × Nat) := [(0, .aload_n 0, 1), (1, .aload_n 1, 1), (2, .putfield 23, 3), (5, .aload_n 0, 1), (6, .iconst 0, 1), (7, .putfield 27, 3), (10, .aload_n 0, 1), (11, .iconst 0, 1), (12, .putfield 31, 3), (15, .aload_n 0, 1), (16, .iconst 0, 1), (17, .putfield 34, 3), (20, .aload_n 0, 1), (21, .iconst 0, 1), (22, .putfield 37, 3), (25, .iconst 0, 1), (26, .istore_n 2, 1), (27, .iload_n 2, 1), (28, .sipush 1000, 3), (31, .if_icmp .gt 27, 3), (34, .aload_n 0, 1), (35, .getfield 34, 3), (38, .ifCond .ne 20, 3), (41, .aload_n 0, 1), (42, .invokevirtual 40, 3), (45, .ifCond .eq 13, 3), (48, .aload_n 0, 1), (49, .invokevirtual 44, 3), (52, .iinc 2 1, 3), (55, .goto (-28), 3), (58, .aload_n 0, 1), (59, .getfield 23, 3), (62, .aload_n 0, 1), (63, .getfield 15, 3), (66, .iconst 0, 1), (67, .aload_n 0, 1), (68, .getfield 27, 3), (71, .aload_n 0, 1), (72, .getfield 15, 3), (75, .arraylength, 1), (76, .invokestatic 47, 3), (79, .invokestatic 53, 3), (82, .invokestatic 56, 3), (85, .putfield 62, 3), (88, .aload_n 0, 1), (89, .getfield 34, 3), (92, .ireturn, 1)]
set_option maxRecDepth 100000 in
theorem kX5_read : tX5_read.all (fun q => decide (decode cX5_read q.1 = .ok q.2)) = true := by decide +kernel
def tX5_kind : List (Nat × Instr × Nat) := [(0, .aload_n 0, 1), (1, .getfield 31, 3), (4, .ifCond .lt 33, 3), (7, .aload_n 0, 1), (8, .getfield 31, 3), (11, .aload_n 0, 1), (12, .getfield 19, 3), (15, .getfield 65, 3), (18, .arraylength, 1), (19, .if_icmp .ge 18, 3), (22, .aload_n 0, 1), (23, .getfield 19, 3), (26, .getfield 65, 3), (29, .aload_n 0, 1), (30, .getfield 31, 3), (33, .iaload, 1), (34, .goto 4, 3), (37, .iconst 0, 1), (38, .ireturn, 1)]
set_option maxRecDepth 100000 in
theorem kX5_kind : tX5_kind.all (fun q => decide (decode cX5_kind q.1 = .ok q.2)) = true := by decide +kernel
def tX5_step : List (Nat × Instr × Nat) := [(0, .aload_n 0, 1), (1, .getfield 31, 3), (4, .aload_n 0, 1), (5, .getfield 19, 3), (8, .getfield 70, 3), (11, .iconst 1, 1), (12, .isub, 1), (13, .if_icmp .ge 13, 3), (16, .aload_n 0, 1), (17, .dup, 1), (18, .getfield 31, 3), (21, .iconst 1, 1), (22, .iadd, 1), (23, .putfield 31, 3), (26, .return_, 1)]
set_option maxRecDepth 100000 in
theorem kX5_step : tX5_step.all (fun q => decide (decode cX5_step q.1 = .ok q.2)) = true := by decide +kernel
def tX5_wrong : List (Nat × Instr × Nat) := [(0, .aload_n 0, 1), (1, .getfield 34, 3), (4, .ifCond .ne 46, 3), (7, .aload_n 0, 1), (8, .getfield 31, 3), (11, .ifCond .lt 39, 3), (14, .aload_n 0, 1), (15, .getfield 31, 3), (18, .aload_n 0, 1), (19, .getfield 19, 3), (22, .getfield 73, 3), (25, .arraylength, 1), (26, .if_icmp .ge 24, 3), (29, .aload_n 0, 1), (30, .iload_n 1, 1), (31, .bipush 16, 2), (33, .aload_n 0, 1), (34, .getfield 19, 3), (37, .getfield 73, 3), (40, .aload_n 0, 1), (41, .getfield 31, 3), (44, .iaload, 1), (45, .imul, 1), (46, .iadd, 1), (47, .putfield 34, 3), (50, .return_, 1)]
set_option maxRecDepth 100000 in
theorem kX5_wrong : tX5_wrong.all (fun q => decide (decode cX5_wrong q.1 = .ok q.2)) = true := by decide +kernel
def tX5_expect : List (Nat × Instr × Nat) := [(0, .aload_n 0, 1), (1, .invokevirtual 40, 3), (4, .iload_n 1, 1), (5, .if_icmp .ne 10, 3), (8, .aload_n 0, 1), (9, .invokevirtual 76, 3), (12, .goto 8, 3), (15, .aload_n 0, 1), (16, .iconst 1, 1), (17, .invokevirtual 79, 3), (20, .return_, 1)]
set_option maxRecDepth 100000 in
theorem kX5_expect : tX5_expect.all (fun q => decide (decode cX5_expect q.1 = .ok q.2)) = true := by decide +kernel
def tX5_number : List (Nat × Instr × Nat) := [(0, .aload_n 0, 1), (1, .invokevirtual 40, 3), (4, .iconst 2, 1), (5, .if_icmp .eq 10, 3), (8, .aload_n 0, 1), (9, .iconst 1, 1), (10, .invokevirtual 79, 3), (13, .iload_n 1, 1), (14, .ireturn, 1), (15, .aload_n 0, 1), (16, .getfield 19, 3), (19, .aload_n 0, 1), (20, .getfield 31, 3), (23, .invokevirtual 83, 3), (26, .istore_n 3, 1), (27, .iload_n 3, 1), (28, .iload_n 1, 1), (29, .if_icmp .lt 8, 3), (32, .iload_n 3, 1), (33, .iload_n 2, 1), (34, .if_icmp .le 10, 3), (37, .aload_n 0, 1), (38, .iconst 4, 1), (39, .invokevirtual 79, 3), (42, .iload_n 1, 1), (43, .ireturn, 1), (44, .aload_n 0, 1), (45, .invokevirtual 76, 3), (48, .iload_n 3, 1), (49, .ireturn, 1)]
set_option maxRecDepth 100000 in
theorem kX5_number : tX5_number.all (fun q => decide (decode cX5_number q.1 = .ok q.2)) = true := by decide +kernel
def tX5_line : List (Nat × Instr × Nat) := [(0, .aload_n 0, 1), (1, .invokevirtual 40, 3), (4, .istore_n 1, 1), (5, .iload_n 1, 1), (6, .bipush 64, 2), (8, .if_icmp .lt 17, 3), (11, .iload_n 1, 1), (12, .bipush 68, 2), (14, .if_icmp .gt 11, 3), (17, .aload_n 0, 1), (18, .iload_n 1, 1), (19, .invokevirtual 87, 3), (22, .goto 34, 3), (25, .iload_n 1, 1), (26, .bipush 69, 2), (28, .if_icmp .ne 10, 3), (31, .aload_n 0, 1), (32, .invokevirtual 90, 3), (35, .goto 21, 3), (38, .iload_n 1, 1), (39, .bipush 70, 2), (41, .if_icmp .ne 10, 3), (44, .aload_n 0, 1), (45, .invokevirtual 93, 3), (48, .goto 8, 3), (51, .aload_n 0, 1), (52, .iconst 1, 1), (53, .invokevirtual 79, 3), (56, .aload_n 0, 1), (57, .bipush 59, 2), (59, .invokevirtual 96, 3), (62, .return_, 1)]
set_option maxRecDepth 100000 in
theorem kX5_line : tX5_line.all (fun q => decide (decode cX5_line q.1 = .ok q.2)) = true := by decide +kernel
def tX5_lineToldOnce : List (Nat × Instr × Nat) := [(0, .iconst 1, 1), (1, .iload_n 1, 1), (2, .bipush 64, 2), (4, .isub, 1), (5, .ishl, 1), (6, .istore_n 2, 1), (7, .aload_n 0, 1), (8, .getfield 37, 3), (11, .iload_n 2, 1), (12, .iand, 1), (13, .ifCond .eq 9, 3), (16, .aload_n 0, 1), (17, .iconst 3, 1), (18, .invokevirtual 79, 3), (21, .return_, 1), (22, .aload_n 0, 1), (23, .dup, 1), (24, .getfield 37, 3), (27, .iload_n 2, 1), (28, .ior, 1), (29, .putfield 37, 3), (32, .aload_n 0, 1), (33, .invokevirtual 76, 3), (36, .iload_n 1, 1), (37, .tableswitch 126 64 67 #[31, 48, 65, 81], 31), (68, .aload_n 0, 1), (69, .getfield 23, 3), (72, .aload_n 0, 1), (73, .iconst 1, 1), (74, .bipush 40, 2), (76, .invokevirtual 99, 3), (79, .putfield 102, 3), (82, .goto 96, 3), (85, .aload_n 0, 1), (86, .getfield 23, 3), (89, .aload_n 0, 1), (90, .iconst 0, 1), (91, .bipush 99, 2), (93, .invokevirtual 99, 3), (96, .putfield 105, 3), (99, .goto 79, 3), (102, .aload_n 0, 1), (103, .getfield 23, 3), (106, .aload_n 0, 1), (107, .iconst 1, 1), (108, .iconst 2, 1), (109, .invokevirtual 99, 3), (112, .putfield 108, 3), (115, .goto 63, 3), (118, .aload_n 0, 1), (119, .getfield 23, 3), (122, .aload_n 0, 1), (123, .iconst 1, 1), (124, .bipush 8, 2), (126, .invokevirtual 99, 3), (129, .putfield 111, 3), (132, .aload_n 0, 1), (133, .bipush 71, 2), (135, .invokevirtual 96, 3), (138, .aload_n 0, 1), (139, .getfield 23, 3), (142, .aload_n 0, 1), (143, .aload_n 0, 1), (144, .getfield 23, 3), (147, .getfield 111, 3), (150, .iconst 1, 1), (151, .iadd, 1), (152, .bipush 9, 2), (154, .invokevirtual 99, 3), (157, .putfield 114, 3), (160, .goto 18, 3), (163, .aload_n 0, 1), (164, .getfield 23, 3), (167, .aload_n 0, 1), (168, .iconst 0, 1), (169, .sipush 1000, 3), (172, .invokevirtual 99, 3), (175, .putfield 117, 3), (178, .return_, 1)]
set_option maxRecDepth 100000 in
theorem kX5_lineToldOnce : tX5_lineToldOnce.all (fun q => decide (decode cX5_lineToldOnce q.1 = .ok q.2)) = true := by decide +kernel
def tX5_personLine : List (Nat × Instr × Nat) := [(0, .aload_n 0, 1), (1, .getfield 23, 3), (4, .getfield 120, 3), (7, .getfield 124, 3), (10, .bipush 16, 2), (12, .if_icmp .lt 9, 3), (15, .aload_n 0, 1), (16, .iconst 5, 1), (17, .invokevirtual 79, 3), (20, .return_, 1), (21, .aload_n 0, 1), (22, .invokevirtual 76, 3), (25, .aload_n 0, 1), (26, .invokevirtual 129, 3), (29, .aload_n 0, 1), (30, .invokevirtual 132, 3), (33, .istore_n 1, 1), (34, .aload_n 0, 1), (35, .bipush 72, 2), (37, .invokevirtual 96, 3), (40, .aload_n 0, 1), (41, .iconst 0, 1), (42, .sipush 1439, 3), (45, .invokevirtual 99, 3), (48, .istore_n 2, 1), (49, .aload_n 0, 1), (50, .bipush 73, 2), (52, .invokevirtual 96, 3), (55, .aload_n 0, 1), (56, .iconst 0, 1), (57, .sipush 999, 3), (60, .invokevirtual 99, 3), (63, .istore_n 3, 1), (64, .aload_n 0, 1), (65, .bipush 74, 2), (67, .invokevirtual 96, 3), (70, .aload_n 0, 1), (71, .iconst 0, 1), (72, .bipush 99, 2), (74, .invokevirtual 99, 3), (77, .istore 4, 2), (79, .aload_n 0, 1), (80, .invokevirtual 135, 3), (83, .istore 5, 2), (85, .aload_n 0, 1), (86, .getfield 34, 3), (89, .ifCond .ne 17, 3), (92, .aload_n 0, 1), (93, .getfield 23, 3), (96, .iload 5, 2), (98, .iload_n 1, 1), (99, .iload_n 2, 1), (100, .iload_n 3, 1), (101, .iload 4, 2), (103, .invokevirtual 138, 3), (106, .return_, 1)]
set_option maxRecDepth 100000 in
theorem kX5_personLine : tX5_personLine.all (fun q => decide (decode cX5_personLine q.1 = .ok q.2)) = true := by decide +kernel
def tX5_name : List (Nat × Instr × Nat) := [(0, .aload_n 0, 1), (1, .invokevirtual 40, 3), (4, .iconst 3, 1), (5, .if_icmp .eq 9, 3), (8, .aload_n 0, 1), (9, .iconst 1, 1), (10, .invokevirtual 79, 3), (13, .return_, 1), (14, .aload_n 0, 1), (15, .getfield 19, 3), (18, .aload_n 0, 1), (19, .getfield 31, 3), (22, .invokevirtual 142, 3), (25, .lstore_n 1, 1), (26, .aload_n 0, 1), (27, .getfield 23, 3), (30, .getfield 120, 3), (33, .getfield 124, 3), (36, .istore_n 3, 1), (37, .iconst 0, 1), (38, .istore 4, 2), (40, .iload 4, 2), (42, .iload_n 3, 1), (43, .if_icmp .ge 37, 3), (46, .iload 4, 2), (48, .aload_n 0, 1), (49, .getfield 9, 3), (52, .arraylength, 1), (53, .if_icmp .ge 27, 3), (56, .aload_n 0, 1), (57, .getfield 9, 3), (60, .iload 4, 2), (62, .laload, 1), (63, .lload_n 1, 1), (64, .lcmp, 1), (65, .ifCond .ne 9, 3), (68, .aload_n 0, 1), (69, .iconst 3, 1), (70, .invokevirtual 79, 3), (73, .return_, 1), (74, .iinc 4 1, 3), (77, .goto (-37), 3), (80, .iload_n 3, 1), (81, .ifCond .lt 19, 3), (84, .iload_n 3, 1), (85, .aload_n 0, 1), (86, .getfield 9, 3), (89, .arraylength, 1), (90, .if_icmp .ge 10, 3), (93, .aload_n 0, 1), (94, .getfield 9, 3), (97, .iload_n 3, 1), (98, .lload_n 1, 1), (99, .lastore, 1), (100, .aload_n 0, 1), (101, .invokevirtual 76, 3), (104, .return_, 1)]
set_option maxRecDepth 100000 in
theorem kX5_name : tX5_name.all (fun q => decide (decode cX5_name q.1 = .ok q.2)) = true := by decide +kernel
def tX5_sideWord : List (Nat × Instr × Nat) := [(0, .aload_n 0, 1), (1, .invokevirtual 40, 3), (4, .istore_n 1, 1), (5, .iload_n 1, 1), (6, .bipush 75, 2), (8, .if_icmp .eq 9, 3), (11, .iload_n 1, 1), (12, .bipush 76, 2), (14, .if_icmp .ne 12, 3), (17, .aload_n 0, 1), (18, .invokevirtual 76, 3), (21, .iload_n 1, 1), (22, .bipush 75, 2), (24, .isub, 1), (25, .ireturn, 1), (26, .aload_n 0, 1), (27, .iconst 1, 1), (28, .invokevirtual 79, 3), (31, .iconst 0, 1), (32, .ireturn, 1)]
set_option maxRecDepth 100000 in
theorem kX5_sideWord : tX5_sideWord.all (fun q => decide (decode cX5_sideWord q.1 = .ok q.2)) = true := by decide +kernel
def tX5_kindWord : List (Nat × Instr × Nat) := [(0, .aload_n 0, 1), (1, .invokevirtual 40, 3), (4, .istore_n 1, 1), (5, .iload_n 1, 1), (6, .bipush 81, 2), (8, .if_icmp .lt 9, 3), (11, .iload_n 1, 1), (12, .bipush 86, 2), (14, .if_icmp .le 11, 3), (17, .aload_n 0, 1), (18, .iconst 1, 1), (19, .invokevirtual 79, 3), (22, .goto 33, 3), (25, .iload_n 1, 1), (26, .bipush 86, 2), (28, .if_icmp .ne 23, 3), (31, .aload_n 0, 1), (32, .getfield 23, 3), (35, .getfield 146, 3), (38, .bipush 8, 2), (40, .if_icmp .lt 11, 3), (43, .aload_n 0, 1), (44, .iconst 5, 1), (45, .invokevirtual 79, 3), (48, .goto 7, 3), (51, .aload_n 0, 1), (52, .invokevirtual 76, 3), (55, .iload_n 1, 1), (56, .ireturn, 1)]
set_option maxRecDepth 100000 in
theorem kX5_kindWord : tX5_kindWord.all (fun q => decide (decode cX5_kindWord q.1 = .ok q.2)) = true := by decide +kernel
def tX5_lawLine : List (Nat × Instr × Nat) := [(0, .aload_n 0, 1), (1, .getfield 23, 3), (4, .getfield 149, 3), (7, .iconst 4, 1), (8, .if_icmp .lt 9, 3), (11, .aload_n 0, 1), (12, .iconst 5, 1), (13, .invokevirtual 79, 3), (16, .return_, 1), (17, .aload_n 0, 1), (18, .invokevirtual 76, 3), (21, .aload_n 0, 1), (22, .iconst 0, 1), (23, .iconst 0, 1), (24, .invokevirtual 152, 3), (27, .aload_n 0, 1), (28, .getfield 23, 3), (31, .aload_n 0, 1), (32, .getfield 27, 3), (35, .invokevirtual 156, 3), (38, .return_, 1)]
set_option maxRecDepth 100000 in
theorem kX5_lawLine : tX5_lawLine.all (fun q => decide (decode cX5_lawLine q.1 = .ok q.2)) = true := by decide +kernel
def tX5_write : List (Nat × Instr × Nat) := [(0, .aload_n 0, 1), (1, .getfield 15, 3), (4, .aload_n 0, 1), (5, .getfield 27, 3), (8, .iload_n 1, 1), (9, .invokestatic 159, 3), (12, .aload_n 0, 1), (13, .dup, 1), (14, .getfield 27, 3), (17, .iconst 1, 1), (18, .iadd, 1), (19, .putfield 27, 3), (22, .return_, 1)]
set_option maxRecDepth 100000 in
theorem kX5_write : tX5_write.all (fun q => decide (decode cX5_write q.1 = .ok q.2)) = true := by decide +kernel
def tX5_chain : List (Nat × Instr × Nat) := [(0, .iload_n 1, 1), (1, .iconst 4, 1), (2, .if_icmp .lt 9, 3), (5, .aload_n 0, 1), (6, .iload_n 2, 1), (7, .invokevirtual 163, 3), (10, .return_, 1), (11, .aload_n 0, 1), (12, .iload_n 1, 1), (13, .iconst 1, 1), (14, .iadd, 1), (15, .iload_n 2, 1), (16, .invokevirtual 152, 3), (19, .iload_n 1, 1), (20, .iconst 1, 1), (21, .if_icmp .ne 7, 3), (24, .iconst 1, 1), (25, .goto 6, 3), (28, .sipush 1000, 3), (31, .istore_n 3, 1), (32, .iconst 0, 1), (33, .istore 4, 2), (35, .iload 4, 2), (37, .iload_n 3, 1), (38, .if_icmp .ge 52, 3), (41, .aload_n 0, 1), (42, .getfield 34, 3), (45, .ifCond .ne 45, 3), (48, .aload_n 0, 1), (49, .invokevirtual 40, 3), (52, .invokestatic 166, 3), (55, .iload_n 1, 1), (56, .if_icmp .ne 34, 3), (59, .aload_n 0, 1), (60, .invokevirtual 40, 3), (63, .istore 5, 2), (65, .aload_n 0, 1), (66, .invokevirtual 76, 3), (69, .aload_n 0, 1), (70, .iload_n 1, 1), (71, .iconst 1, 1), (72, .iadd, 1), (73, .iload_n 2, 1), (74, .invokevirtual 152, 3), (77, .aload_n 0, 1), (78, .iload 5, 2), (80, .ineg, 1), (81, .invokevirtual 169, 3), (84, .iinc 4 1, 3), (87, .goto (-52), 3), (90, .return_, 1)]
set_option maxRecDepth 100000 in
theorem kX5_chain : tX5_chain.all (fun q => decide (decode cX5_chain q.1 = .ok q.2)) = true := by decide +kernel
def tX5_levelOf : List (Nat × Instr × Nat) := [(0, .iload_n 0, 1), (1, .lookupswitch 75 #[(42, 73), (43, 71), (45, 71), (60, 69), (61, 69), (88, 67), (89, 67)], 67), (68, .iconst 0, 1), (69, .ireturn, 1), (70, .iconst 1, 1), (71, .ireturn, 1), (72, .iconst 2, 1), (73, .ireturn, 1), (74, .iconst 3, 1), (75, .ireturn, 1), (76, .iconst (-1), 1), (77, .ireturn, 1)]
set_option maxRecDepth 100000 in
theorem kX5_levelOf : tX5_levelOf.all (fun q => decide (decode cX5_levelOf q.1 = .ok q.2)) = true := by decide +kernel
def tX5_part : List (Nat × Instr × Nat) := [(0, .aload_n 0, 1), (1, .invokevirtual 40, 3), (4, .istore_n 2, 1), (5, .iload_n 2, 1), (6, .bipush 75, 2), (8, .if_icmp .lt 13, 3), (11, .iload_n 2, 1), (12, .bipush 80, 2), (14, .if_icmp .gt 7, 3), (17, .iconst 1, 1), (18, .goto 4, 3), (21, .iconst 0, 1), (22, .istore_n 3, 1), (23, .iload_n 2, 1), (24, .iconst 2, 1), (25, .if_icmp .eq 25, 3), (28, .iload_n 2, 1), (29, .bipush 87, 2), (31, .if_icmp .eq 19, 3), (34, .iload_n 2, 1), (35, .bipush 40, 2), (37, .if_icmp .eq 13, 3), (40, .iload_n 3, 1), (41, .ifCond .ne 9, 3), (44, .aload_n 0, 1), (45, .iconst 1, 1), (46, .invokevirtual 79, 3), (49, .return_, 1), (50, .iload_n 1, 1), (51, .iconst 5, 1), (52, .if_icmp .lt 9, 3), (55, .aload_n 0, 1), (56, .iconst 5, 1), (57, .invokevirtual 79, 3), (60, .return_, 1), (61, .iload_n 2, 1), (62, .iconst 2, 1), (63, .if_icmp .ne 17, 3), (66, .aload_n 0, 1), (67, .getfield 19, 3), (70, .aload_n 0, 1), (71, .getfield 31, 3), (74, .invokevirtual 83, 3), (77, .goto 4, 3), (80, .iconst 0, 1), (81, .istore 4, 2), (83, .aload_n 0, 1), (84, .invokevirtual 76, 3), (87, .iload_n 2, 1), (88, .iconst 2, 1), (89, .if_icmp .ne 12, 3), (92, .aload_n 0, 1), (93, .iload 4, 2), (95, .invokevirtual 169, 3), (98, .goto 89, 3), (101, .iload_n 2, 1), (102, .bipush 87, 2), (104, .if_icmp .ne 19, 3), (107, .aload_n 0, 1), (108, .iload_n 1, 1), (109, .iconst 1, 1), (110, .iadd, 1), (111, .invokevirtual 163, 3), (114, .aload_n 0, 1), (115, .bipush (-87), 2), (117, .invokevirtual 169, 3), (120, .goto 67, 3), (123, .iload_n 3, 1), (124, .ifCond .eq 49, 3), (127, .aload_n 0, 1), (128, .iload_n 2, 1), (129, .ineg, 1), (130, .invokevirtual 169, 3), (133, .aload_n 0, 1), (134, .getfield 23, 3), (137, .dup, 1), (138, .getfield 172, 3), (141, .iload_n 2, 1), (142, .bipush 79, 2), (144, .if_icmp .eq 9, 3), (147, .iload_n 2, 1), (148, .bipush 80, 2), (150, .if_icmp .ne 15, 3), (153, .iconst 1, 1), (154, .aload_n 0, 1), (155, .getfield 23, 3), (158, .getfield 149, 3), (161, .ishl, 1), (162, .goto 4, 3), (165, .iconst 0, 1), (166, .ior, 1), (167, .putfield 172, 3), (170, .goto 17, 3), (173, .aload_n 0, 1), (174, .iconst 0, 1), (175, .iload_n 1, 1), (176, .iconst 1, 1), (177, .iadd, 1), (178, .invokevirtual 152, 3), (181, .aload_n 0, 1), (182, .bipush 41, 2), (184, .invokevirtual 96, 3), (187, .return_, 1)]
set_option maxRecDepth 100000 in
theorem kX5_part : tX5_part.all (fun q => decide (decode cX5_part q.1 = .ok q.2)) = true := by decide +kernel
def tX6_init : List (Nat × Instr × Nat) := [(0, .aload_n 0, 1), (1, .invokespecial 3, 3), (4, .aload_n 0, 1), (5, .new 9, 3), (8, .dup, 1), (9, .bipush 16, 2), (11, .invokespecial 11, 3), (14, .putfield 14, 3), (17, .aload_n 0, 1), (18, .bipush 16, 2), (20, .newarray .int, 2), (22, .putfield 20, 3), (25, .aload_n 0, 1), (26, .bipush 16, 2), (28, .newarray .int, 2), (30, .putfield 24, 3), (33, .aload_n 0, 1), (34, .bipush 8, 2), (36, .newarray .int, 2), (38, .putfield 27, 3), (41, .aload_n 0, 1), (42, .iconst 5, 1), (43, .newarray .int, 2), (45, .putfield 30, 3), (48, .aload_n 0, 1), (49, .iconst 0, 1), (50, .newarray .int, 2), (52, .putfield 33, 3), (55, .aload_n 0, 1), (56, .bipush 40, 2), (58, .putfield 36, 3), (61, .aload_n 0, 1), (62, .bipush 10, 2), (64, .putfield 40, 3), (67, .aload_n 0, 1), (68, .iconst 1, 1), (69, .putfield 43, 3), (72, .aload_n 0, 1), (73, .iconst 1, 1), (74, .putfield 46, 3), (77, .aload_n 0, 1), (78, .iconst 2, 1), (79, .putfield 49, 3), (82, .aload_n 0, 1), (83, .bipush 50, 2), (85, .putfield 52, 3), (88, .return_, 1)]
set_option maxRecDepth 100000 in
theorem kX6_init : tX6_init.all (fun q => decide (decode cX6_init q.1 = .ok q.2)) = true := by decide +kernel
def tX6_addPerson : List (Nat × Instr × Nat) := [(0, .aload_n 0, 1), (1, .getfield 14, 3), (4, .getfield 55, 3), (7, .istore 6, 2), (9, .aload_n 0, 1), (10, .getfield 24, 3), (13, .iload 6, 2), (15, .iload_n 1, 1), (16, .invokestatic 58, 3), (19, .aload_n 0, 1), (20, .getfield 20, 3), (23, .iload 6, 2), (25, .iload 5, 2), (27, .invokestatic 58, 3), (30, .aload_n 0, 1), (31, .getfield 14, 3), (34, .iload_n 3, 1), (35, .iload_n 2, 1), (36, .iload 4, 2), (38, .iload_n 1, 1), (39, .invokestatic 62, 3), (42, .invokevirtual 66, 3), (45, .iload_n 1, 1), (46, .bipush 86, 2), (48, .if_icmp .ne 26, 3), (51, .aload_n 0, 1), (52, .getfield 27, 3), (55, .aload_n 0, 1), (56, .getfield 70, 3), (59, .iload 6, 2), (61, .invokestatic 58, 3), (64, .aload_n 0, 1), (65, .dup, 1), (66, .getfield 70, 3), (69, .iconst 1, 1), (70, .iadd, 1), (71, .putfield 70, 3), (74, .return_, 1)]
set_option maxRecDepth 100000 in
theorem kX6_addPerson : tX6_addPerson.all (fun q => decide (decode cX6_addPerson q.1 = .ok q.2)) = true := by decide +kernel
def tX6_countOf : List (Nat × Instr × Nat) := [(0, .iload_n 0, 1), (1, .tableswitch 33 82 84 #[27, 29, 31], 27), (28, .iconst 0, 1), (29, .ireturn, 1), (30, .iconst 1, 1), (31, .ireturn, 1), (32, .iconst 4, 1), (33, .ireturn, 1), (34, .iconst 2, 1), (35, .ireturn, 1)]
set_option maxRecDepth 100000 in
theorem kX6_countOf : tX6_countOf.all (fun q => decide (decode cX6_countOf q.1 = .ok q.2)) = true := by decide +kernel
def tX6_endLaw : List (Nat × Instr × Nat) := [(0, .aload_n 0, 1), (1, .dup, 1), (2, .getfield 73, 3), (5, .iconst 1, 1), (6, .iadd, 1), (7, .putfield 73, 3), (10, .aload_n 0, 1), (11, .getfield 30, 3), (14, .aload_n 0, 1), (15, .getfield 73, 3), (18, .iload_n 1, 1), (19, .invokestatic 58, 3), (22, .return_, 1)]
set_option maxRecDepth 100000 in
theorem kX6_endLaw : tX6_endLaw.all (fun q => decide (decode cX6_endLaw q.1 = .ok q.2)) = true := by decide +kernel
def tX6_isTimed : List (Nat × Instr × Nat) := [(0, .iload_n 1, 1), (1, .ifCond .lt 18, 3), (4, .aload_n 0, 1), (5, .getfield 76, 3), (8, .iload_n 1, 1), (9, .ishr, 1), (10, .iconst 1, 1), (11, .iand, 1), (12, .ifCond .eq 7, 3), (15, .iconst 1, 1), (16, .goto 4, 3), (19, .iconst 0, 1), (20, .ireturn, 1)]
set_option maxRecDepth 100000 in
theorem kX6_isTimed : tX6_isTimed.all (fun q => decide (decode cX6_isTimed q.1 = .ok q.2)) = true := by decide +kernel
def tX6_lawValue : List (Nat × Instr × Nat) := [(0, .iload_n 1, 1), (1, .iconst (-1), 1), (2, .if_icmp .ne 31, 3), (5, .aload_n 2, 1), (6, .iconst 0, 1), (7, .invokestatic 79, 3), (10, .aload_n 2, 1), (11, .iconst 1, 1), (12, .invokestatic 79, 3), (15, .if_icmp .ne 16, 3), (18, .iconst 0, 1), (19, .aload_n 2, 1), (20, .iconst 0, 1), (21, .invokestatic 79, 3), (24, .if_icmp .ge 7, 3), (27, .iconst 1, 1), (28, .goto 4, 3), (31, .iconst 0, 1), (32, .ireturn, 1), (33, .iconst 0, 1), (34, .istore 4, 2), (36, .aload_n 0, 1), (37, .getfield 30, 3), (40, .iload_n 1, 1), (41, .iconst 1, 1), (42, .iadd, 1), (43, .invokestatic 79, 3), (46, .aload_n 0, 1), (47, .getfield 33, 3), (50, .arraylength, 1), (51, .invokestatic 83, 3), (54, .istore 5, 2), (56, .iconst 0, 1), (57, .aload_n 0, 1), (58, .getfield 30, 3), (61, .iload_n 1, 1), (62, .invokestatic 79, 3), (65, .invokestatic 89, 3), (68, .istore 6, 2), (70, .iload 6, 2), (72, .iload 5, 2), (74, .if_icmp .ge 143, 3), (77, .iload 4, 2), (79, .aload_n 3, 1), (80, .arraylength, 1), (81, .if_icmp .ge 136, 3), (84, .aload_n 0, 1), (85, .getfield 33, 3), (88, .iload 6, 2), (90, .iaload, 1), (91, .istore 7, 2), (93, .iload 7, 2), (95, .ineg, 1), (96, .bipush 75, 2), (98, .isub, 1), (99, .istore 8, 2), (101, .iload 7, 2), (103, .ifCond .lt 15, 3), (106, .aload_n 3, 1), (107, .iload 4, 2), (109, .iload 7, 2), (111, .iastore, 1), (112, .iinc 4 1, 3), (115, .goto 96, 3), (118, .iload 8, 2), (120, .ifCond .lt 24, 3), (123, .iload 8, 2), (125, .aload_n 2, 1), (126, .arraylength, 1), (127, .if_icmp .ge 17, 3), (130, .aload_n 3, 1), (131, .iload 4, 2), (133, .aload_n 2, 1), (134, .iload 8, 2), (136, .iaload, 1), (137, .iastore, 1), (138, .iinc 4 1, 3), (141, .goto 70, 3), (144, .iload 7, 2), (146, .bipush (-87), 2), (148, .if_icmp .ne 32, 3), (151, .iload 4, 2), (153, .iconst 1, 1), (154, .if_icmp .lt 26, 3), (157, .aload_n 3, 1), (158, .iload 4, 2), (160, .iconst 1, 1), (161, .isub, 1), (162, .aload_n 3, 1), (163, .iload 4, 2), (165, .iconst 1, 1), (166, .isub, 1), (167, .iaload, 1), (168, .ifCond .ne 7, 3), (171, .iconst 1, 1), (172, .goto 4, 3), (175, .iconst 0, 1), (176, .iastore, 1), (177, .goto 34, 3), (180, .iload 4, 2), (182, .iconst 2, 1), (183, .if_icmp .lt 28, 3), (186, .iinc 4 (-1), 3), (189, .aload_n 3, 1), (190, .iload 4, 2), (192, .iconst 1, 1), (193, .isub, 1), (194, .iload 7, 2), (196, .ineg, 1), (197, .aload_n 3, 1), (198, .iload 4, 2), (200, .iconst 1, 1), (201, .isub, 1), (202, .iaload, 1), (203, .aload_n 3, 1), (204, .iload 4, 2), (206, .iaload, 1), (207, .invokestatic 92, 3), (210, .iastore, 1), (211, .iinc 6 1, 3), (214, .goto (-144), 3), (217, .aload_n 3, 1), (218, .iconst 0, 1), (219, .invokestatic 79, 3), (222, .ireturn, 1)]
set_option maxRecDepth 100000 in
theorem kX6_lawValue : tX6_lawValue.all (fun q => decide (decode cX6_lawValue q.1 = .ok q.2)) = true := by decide +kernel
def tX6_joined : List (Nat × Instr × Nat) := [(0, .iload_n 0, 1), (1, .lookupswitch 107 #[(42, 67), (43, 59), (45, 63), (60, 71), (61, 82), (88, 93)], 59), (60, .iload_n 1, 1), (61, .iload_n 2, 1), (62, .iadd, 1), (63, .ireturn, 1), (64, .iload_n 1, 1), (65, .iload_n 2, 1), (66, .isub, 1), (67, .ireturn, 1), (68, .iload_n 1, 1), (69, .iload_n 2, 1), (70, .imul, 1), (71, .ireturn, 1), (72, .iload_n 1, 1), (73, .iload_n 2, 1), (74, .if_icmp .ge 7, 3), (77, .iconst 1, 1), (78, .goto 4, 3), (81, .iconst 0, 1), (82, .ireturn, 1), (83, .iload_n 1, 1), (84, .iload_n 2, 1), (85, .if_icmp .ne 7, 3), (88, .iconst 1, 1), (89, .goto 4, 3), (92, .iconst 0, 1), (93, .ireturn, 1), (94, .iload_n 1, 1), (95, .ifCond .eq 11, 3), (98, .iload_n 2, 1), (99, .ifCond .eq 7, 3), (102, .iconst 1, 1), (103, .goto 4, 3), (106, .iconst 0, 1), (107, .ireturn, 1), (108, .iload_n 1, 1), (109, .ifCond .ne 7, 3), (112, .iload_n 2, 1), (113, .ifCond .eq 7, 3), (116, .iconst 1, 1), (117, .goto 4, 3), (120, .iconst 0, 1), (121, .ireturn, 1)]
set_option maxRecDepth 100000 in
theorem kX6_joined : tX6_joined.all (fun q => decide (decode cX6_joined q.1 = .ok q.2)) = true := by decide +kernel
def tX7_init : List (Nat × Instr × Nat) := [(0, .aload_n 0, 1), (1, .invokespecial 3, 3), (4, .aload_n 0, 1), (5, .bipush 30, 2), (7, .newarray .int, 2), (9, .putfield 9, 3), (12, .aload_n 0, 1), (13, .iconst (-1), 1), (14, .putfield 15, 3), (17, .aload_n 0, 1), (18, .aload_n 1, 1), (19, .putfield 19, 3), (22, .return_, 1)]
set_option maxRecDepth 100000 in
theorem kX7_init : tX7_init.all (fun q => decide (decode cX7_init q.1 = .ok q.2)) = true := by decide +kernel
def tX7_start : List (Nat × Instr × Nat) := [(0, .aload_n 0, 1), (1, .aload_n 1, 1), (2, .putfield 19, 3), (5, .aload_n 0, 1), (6, .aload_n 1, 1), (7, .getfield 23, 3), (10, .ifCond .le 7, 3), (13, .iconst 0, 1), (14, .goto 4, 3), (17, .iconst (-1), 1), (18, .putfield 15, 3), (21, .aload_n 0, 1), (22, .iconst 0, 1), (23, .putfield 28, 3), (26, .return_, 1)]
set_option maxRecDepth 100000 in
theorem kX7_start : tX7_start.all (fun q => decide (decode cX7_start q.1 = .ok q.2)) = true := by decide +kernel
def tX7_take : List (Nat × Instr × Nat) := [(0, .aload_n 0, 1), (1, .aload_n 1, 1), (2, .getfield 19, 3), (5, .putfield 19, 3), (8, .aload_n 0, 1), (9, .aload_n 1, 1), (10, .getfield 15, 3), (13, .putfield 15, 3), (16, .aload_n 0, 1), (17, .aload_n 1, 1), (18, .getfield 28, 3), (21, .putfield 28, 3), (24, .iconst 0, 1), (25, .istore_n 2, 1), (26, .iload_n 2, 1), (27, .aload_n 0, 1), (28, .getfield 28, 3), (31, .if_icmp .ge 25, 3), (34, .aload_n 0, 1), (35, .getfield 9, 3), (38, .iload_n 2, 1), (39, .aload_n 1, 1), (40, .getfield 9, 3), (43, .iload_n 2, 1), (44, .invokestatic 31, 3), (47, .invokestatic 35, 3), (50, .iinc 2 1, 3), (53, .goto (-27), 3), (56, .return_, 1)]
set_option maxRecDepth 100000 in
theorem kX7_take : tX7_take.all (fun q => decide (decode cX7_take q.1 = .ok q.2)) = true := by decide +kernel
def tX7_addTold : List (Nat × Instr × Nat) := [(0, .aload_n 0, 1), (1, .getfield 28, 3), (4, .ifCond .ne 7, 3), (7, .iconst (-1), 1), (8, .goto 16, 3), (11, .aload_n 0, 1), (12, .getfield 9, 3), (15, .aload_n 0, 1), (16, .getfield 28, 3), (19, .iconst 1, 1), (20, .isub, 1), (21, .invokestatic 31, 3), (24, .istore_n 2, 1), (25, .iload_n 1, 1), (26, .invokestatic 39, 3), (29, .ifCond .eq 17, 3), (32, .iload_n 1, 1), (33, .iload_n 2, 1), (34, .if_icmp .le 12, 3), (37, .aload_n 0, 1), (38, .getfield 28, 3), (41, .bipush 30, 2), (43, .if_icmp .lt 5, 3), (46, .iconst 0, 1), (47, .ireturn, 1), (48, .aload_n 0, 1), (49, .getfield 9, 3), (52, .aload_n 0, 1), (53, .getfield 28, 3), (56, .iload_n 1, 1), (57, .invokestatic 35, 3), (60, .aload_n 0, 1), (61, .dup, 1), (62, .getfield 28, 3), (65, .iconst 1, 1), (66, .iadd, 1), (67, .putfield 28, 3), (70, .iconst 1, 1), (71, .ireturn, 1)]
set_option maxRecDepth 100000 in
theorem kX7_addTold : tX7_addTold.all (fun q => decide (decode cX7_addTold q.1 = .ok q.2)) = true := by decide +kernel
def tX7_isTold : List (Nat × Instr × Nat) := [(0, .iconst 0, 1), (1, .istore_n 2, 1), (2, .iload_n 2, 1), (3, .aload_n 0, 1), (4, .getfield 28, 3), (7, .if_icmp .ge 23, 3), (10, .aload_n 0, 1), (11, .getfield 9, 3), (14, .iload_n 2, 1), (15, .invokestatic 31, 3), (18, .iload_n 1, 1), (19, .if_icmp .ne 5, 3), (22, .iconst 1, 1), (23, .ireturn, 1), (24, .iinc 2 1, 3), (27, .goto (-25), 3), (30, .iconst 0, 1), (31, .ireturn, 1)]
set_option maxRecDepth 100000 in
theorem kX7_isTold : tX7_isTold.all (fun q => decide (decode cX7_isTold q.1 = .ok q.2)) = true := by decide +kernel
def tX8_init : List (Nat × Instr × Nat) := [(0, .aload_n 0, 1), (1, .invokespecial 3, 3), (4, .aload_n 0, 1), (5, .sipush 1000, 3), (8, .newarray .char, 2), (10, .putfield 9, 3), (13, .aload_n 0, 1), (14, .sipush 1001, 3), (17, .newarray .int, 2), (19, .putfield 15, 3), (22, .aload_n 0, 1), (23, .sipush 1001, 3), (26, .newarray .int, 2), (28, .putfield 19, 3), (31, .return_, 1)]
set_option maxRecDepth 100000 in
theorem kX8_init : tX8_init.all (fun q => decide (decode cX8_init q.1 = .ok q.2)) = true := by decide +kernel
def tX8_append : List (Nat × Instr × Nat) := [(0, .bipush 56, 2), (2, .istore_n 3, 1), (3, .iload_n 3, 1), (4, .ifCond .lt 93, 3), (7, .lload_n 1, 1), (8, .iload_n 3, 1), (9, .lushr, 1), (10, .l2i, 1), (11, .sipush 255, 3), (14, .iand, 1), (15, .istore 4, 2), (17, .iload 4, 2), (19, .bipush 10, 2), (21, .if_icmp .eq 17, 3), (24, .iload 4, 2), (26, .bipush 32, 2), (28, .if_icmp .lt 14, 3), (31, .iload 4, 2), (33, .bipush 126, 2), (35, .if_icmp .gt 7, 3), (38, .iconst 1, 1), (39, .goto 4, 3), (42, .iconst 0, 1), (43, .istore 5, 2), (45, .iload 5, 2), (47, .ifCond .eq 44, 3), (50, .aload_n 0, 1), (51, .getfield 22, 3), (54, .ifCond .lt 37, 3), (57, .aload_n 0, 1), (58, .getfield 22, 3), (61, .aload_n 0, 1), (62, .getfield 9, 3), (65, .arraylength, 1), (66, .if_icmp .ge 25, 3), (69, .aload_n 0, 1), (70, .getfield 9, 3), (73, .aload_n 0, 1), (74, .getfield 22, 3), (77, .iload 4, 2), (79, .i2c, 1), (80, .castore, 1), (81, .aload_n 0, 1), (82, .dup, 1), (83, .getfield 22, 3), (86, .iconst 1, 1), (87, .iadd, 1), (88, .putfield 22, 3), (91, .iinc 3 (-8), 3), (94, .goto (-91), 3), (97, .return_, 1)]
set_option maxRecDepth 100000 in
theorem kX8_append : tX8_append.all (fun q => decide (decode cX8_append q.1 = .ok q.2)) = true := by decide +kernel
def tX8_cut : List (Nat × Instr × Nat) := [(0, .aload_n 0, 1), (1, .iconst 0, 1), (2, .putfield 26, 3), (5, .iconst 0, 1), (6, .istore_n 2, 1), (7, .iload_n 2, 1), (8, .aload_n 0, 1), (9, .getfield 22, 3), (12, .if_icmp .ge 127, 3), (15, .aload_n 0, 1), (16, .iload_n 2, 1), (17, .invokevirtual 29, 3), (20, .istore_n 3, 1), (21, .iload_n 2, 1), (22, .iconst 1, 1), (23, .iadd, 1), (24, .istore_n 1, 1), (25, .iload_n 3, 1), (26, .invokestatic 33, 3), (29, .ifCond .eq 35, 3), (32, .aload_n 0, 1), (33, .iload_n 2, 1), (34, .invokevirtual 37, 3), (37, .istore_n 1, 1), (38, .aload_n 0, 1), (39, .iload_n 1, 1), (40, .iload_n 2, 1), (41, .isub, 1), (42, .bipush 8, 2), (44, .if_icmp .le 7, 3), (47, .iconst 1, 1), (48, .goto 9, 3), (51, .aload_n 0, 1), (52, .iload_n 2, 1), (53, .iload_n 1, 1), (54, .invokevirtual 41, 3), (57, .iload_n 2, 1), (58, .invokevirtual 45, 3), (61, .goto 67, 3), (64, .iload_n 3, 1), (65, .invokestatic 49, 3), (68, .ifCond .eq 29, 3), (71, .aload_n 0, 1), (72, .iload_n 2, 1), (73, .invokevirtual 52, 3), (76, .istore_n 1, 1), (77, .aload_n 0, 1), (78, .iload_n 1, 1), (79, .iload_n 2, 1), (80, .isub, 1), (81, .iconst 4, 1), (82, .if_icmp .le 7, 3), (85, .iconst 1, 1), (86, .goto 4, 3), (89, .iconst 2, 1), (90, .iload_n 2, 1), (91, .invokevirtual 45, 3), (94, .goto 34, 3), (97, .iload_n 3, 1), (98, .bipush 10, 2), (100, .if_icmp .eq 28, 3), (103, .iload_n 3, 1), (104, .bipush 32, 2), (106, .if_icmp .eq 22, 3), (109, .aload_n 0, 1), (110, .ldc 55, 2), (112, .iload_n 3, 1), (113, .invokevirtual 57, 3), (116, .ifCond .lt 7, 3), (119, .iload_n 3, 1), (120, .goto 4, 3), (123, .iconst 1, 1), (124, .iload_n 2, 1), (125, .invokevirtual 45, 3), (128, .iload_n 2, 1), (129, .iconst 1, 1), (130, .iadd, 1), (131, .iload_n 1, 1), (132, .invokestatic 62, 3), (135, .istore_n 2, 1), (136, .goto (-129), 3), (139, .aload_n 0, 1), (140, .iconst 0, 1), (141, .aload_n 0, 1), (142, .getfield 22, 3), (145, .invokevirtual 45, 3), (148, .return_, 1)]
set_option maxRecDepth 100000 in
theorem kX8_cut : tX8_cut.all (fun q => decide (decode cX8_cut q.1 = .ok q.2)) = true := by decide +kernel
def tX8_add : List (Nat × Instr × Nat) := [(0, .aload_n 0, 1), (1, .getfield 15, 3), (4, .aload_n 0, 1), (5, .getfield 26, 3), (8, .iload_n 1, 1), (9, .invokestatic 67, 3), (12, .aload_n 0, 1), (13, .getfield 19, 3), (16, .aload_n 0, 1), (17, .getfield 26, 3), (20, .iload_n 2, 1), (21, .invokestatic 67, 3), (24, .aload_n 0, 1), (25, .dup, 1), (26, .getfield 26, 3), (29, .iconst 1, 1), (30, .iadd, 1), (31, .putfield 26, 3), (34, .return_, 1)]
set_option maxRecDepth 100000 in
theorem kX8_add : tX8_add.all (fun q => decide (decode cX8_add q.1 = .ok q.2)) = true := by decide +kernel
def tX8_signAt : List (Nat × Instr × Nat) := [(0, .iload_n 1, 1), (1, .ifCond .lt 29, 3), (4, .iload_n 1, 1), (5, .aload_n 0, 1), (6, .getfield 22, 3), (9, .if_icmp .ge 21, 3), (12, .iload_n 1, 1), (13, .aload_n 0, 1), (14, .getfield 9, 3), (17, .arraylength, 1), (18, .if_icmp .ge 12, 3), (21, .aload_n 0, 1), (22, .getfield 9, 3), (25, .iload_n 1, 1), (26, .caload, 1), (27, .goto 5, 3), (30, .bipush 32, 2), (32, .ireturn, 1)]
set_option maxRecDepth 100000 in
theorem kX8_signAt : tX8_signAt.all (fun q => decide (decode cX8_signAt q.1 = .ok q.2)) = true := by decide +kernel
def tX8_isLetter : List (Nat × Instr × Nat) := [(0, .iload_n 0, 1), (1, .bipush 97, 2), (3, .if_icmp .lt 13, 3), (6, .iload_n 0, 1), (7, .bipush 122, 2), (9, .if_icmp .gt 7, 3), (12, .iconst 1, 1), (13, .goto 4, 3), (16, .iconst 0, 1), (17, .ireturn, 1)]
set_option maxRecDepth 100000 in
theorem kX8_isLetter : tX8_isLetter.all (fun q => decide (decode cX8_isLetter q.1 = .ok q.2)) = true := by decide +kernel
def tX8_isDigit : List (Nat × Instr × Nat) := [(0, .iload_n 0, 1), (1, .bipush 48, 2), (3, .if_icmp .lt 13, 3), (6, .iload_n 0, 1), (7, .bipush 57, 2), (9, .if_icmp .gt 7, 3), (12, .iconst 1, 1), (13, .goto 4, 3), (16, .iconst 0, 1), (17, .ireturn, 1)]
set_option maxRecDepth 100000 in
theorem kX8_isDigit : tX8_isDigit.all (fun q => decide (decode cX8_isDigit q.1 = .ok q.2)) = true := by decide +kernel
def tX8_endOfWord : List (Nat × Instr × Nat) := [(0, .iload_n 1, 1), (1, .istore_n 2, 1), (2, .iload_n 2, 1), (3, .aload_n 0, 1), (4, .getfield 22, 3), (7, .if_icmp .ge 20, 3), (10, .aload_n 0, 1), (11, .iload_n 2, 1), (12, .invokevirtual 29, 3), (15, .invokestatic 33, 3), (18, .ifCond .eq 9, 3), (21, .iinc 2 1, 3), (24, .goto (-22), 3), (27, .iload_n 2, 1), (28, .ireturn, 1)]
set_option maxRecDepth 100000 in
theorem kX8_endOfWord : tX8_endOfWord.all (fun q => decide (decode cX8_endOfWord q.1 = .ok q.2)) = true := by decide +kernel
def tX8_endOfNumber : List (Nat × Instr × Nat) := [(0, .iload_n 1, 1), (1, .istore_n 2, 1), (2, .iload_n 2, 1), (3, .aload_n 0, 1), (4, .getfield 22, 3), (7, .if_icmp .ge 20, 3), (10, .aload_n 0, 1), (11, .iload_n 2, 1), (12, .invokevirtual 29, 3), (15, .invokestatic 49, 3), (18, .ifCond .eq 9, 3), (21, .iinc 2 1, 3), (24, .goto (-22), 3), (27, .iload_n 2, 1), (28, .ireturn, 1)]
set_option maxRecDepth 100000 in
theorem kX8_endOfNumber : tX8_endOfNumber.all (fun q => decide (decode cX8_endOfNumber q.1 = .ok q.2)) = true := by decide +kernel
def tX8_wordKind : List (Nat × Instr × Nat) := [(0, .iconst 0, 1), (1, .istore_n 3, 1), (2, .iload_n 3, 1), (3, .ldc 71, 2), (5, .invokevirtual 73, 3), (8, .bipush 8, 2), (10, .idiv, 1), (11, .if_icmp .ge 24, 3), (14, .aload_n 0, 1), (15, .iload_n 3, 1), (16, .iload_n 1, 1), (17, .iload_n 2, 1), (18, .invokevirtual 76, 3), (21, .ifCond .eq 8, 3), (24, .bipush 64, 2), (26, .iload_n 3, 1), (27, .iadd, 1), (28, .ireturn, 1), (29, .iinc 3 1, 3), (32, .goto (-30), 3), (35, .iconst 3, 1), (36, .ireturn, 1)]
set_option maxRecDepth 100000 in
theorem kX8_wordKind : tX8_wordKind.all (fun q => decide (decode cX8_wordKind q.1 = .ok q.2)) = true := by decide +kernel
def tX8_isWord : List (Nat × Instr × Nat) := [(0, .iconst 0, 1), (1, .istore 4, 2), (3, .iload 4, 2), (5, .bipush 8, 2), (7, .if_icmp .ge 70, 3), (10, .iload_n 1, 1), (11, .bipush 8, 2), (13, .imul, 1), (14, .iload 4, 2), (16, .iadd, 1), (17, .istore 5, 2), (19, .iload_n 2, 1), (20, .iload 4, 2), (22, .iadd, 1), (23, .iload_n 3, 1), (24, .if_icmp .ge 14, 3), (27, .aload_n 0, 1), (28, .iload_n 2, 1), (29, .iload 4, 2), (31, .iadd, 1), (32, .invokevirtual 29, 3), (35, .goto 5, 3), (38, .bipush 32, 2), (40, .istore 6, 2), (42, .iload 5, 2), (44, .ifCond .lt 25, 3), (47, .iload 5, 2), (49, .ldc 71, 2), (51, .invokevirtual 73, 3), (54, .if_icmp .ge 15, 3), (57, .ldc 71, 2), (59, .iload 5, 2), (61, .invokevirtual 80, 3), (64, .iload 6, 2), (66, .if_icmp .eq 5, 3), (69, .iconst 0, 1), (70, .ireturn, 1), (71, .iinc 4 1, 3), (74, .goto (-71), 3), (77, .iconst 1, 1), (78, .ireturn, 1)]
set_option maxRecDepth 100000 in
theorem kX8_isWord : tX8_isWord.all (fun q => decide (decode cX8_isWord q.1 = .ok q.2)) = true := by decide +kernel
def tX8_nameKey : List (Nat × Instr × Nat) := [(0, .aload_n 0, 1), (1, .getfield 19, 3), (4, .iload_n 1, 1), (5, .invokestatic 83, 3), (8, .istore_n 2, 1), (9, .lconst 0, 1), (10, .lstore_n 3, 1), (11, .iload_n 2, 1), (12, .istore 5, 2), (14, .iload 5, 2), (16, .iload_n 2, 1), (17, .bipush 8, 2), (19, .iadd, 1), (20, .if_icmp .ge 40, 3), (23, .aload_n 0, 1), (24, .iload 5, 2), (26, .invokevirtual 29, 3), (29, .invokestatic 33, 3), (32, .ifCond .eq 28, 3), (35, .lload_n 3, 1), (36, .ldc2_w 87, 3), (39, .lmul, 1), (40, .aload_n 0, 1), (41, .iload 5, 2), (43, .invokevirtual 29, 3), (46, .bipush 97, 2), (48, .isub, 1), (49, .iconst 1, 1), (50, .iadd, 1), (51, .i2l, 1), (52, .ladd, 1), (53, .lstore_n 3, 1), (54, .iinc 5 1, 3), (57, .goto (-43), 3), (60, .lload_n 3, 1), (61, .lreturn, 1)]
set_option maxRecDepth 100000 in
theorem kX8_nameKey : tX8_nameKey.all (fun q => decide (decode cX8_nameKey q.1 = .ok q.2)) = true := by decide +kernel
def tX8_numberValue : List (Nat × Instr × Nat) := [(0, .aload_n 0, 1), (1, .getfield 19, 3), (4, .iload_n 1, 1), (5, .invokestatic 83, 3), (8, .istore_n 2, 1), (9, .iconst 0, 1), (10, .istore_n 3, 1), (11, .iload_n 2, 1), (12, .istore 4, 2), (14, .iload 4, 2), (16, .iload_n 2, 1), (17, .iconst 4, 1), (18, .iadd, 1), (19, .if_icmp .ge 36, 3), (22, .aload_n 0, 1), (23, .iload 4, 2), (25, .invokevirtual 29, 3), (28, .invokestatic 49, 3), (31, .ifCond .eq 24, 3), (34, .iload_n 3, 1), (35, .bipush 10, 2), (37, .imul, 1), (38, .aload_n 0, 1), (39, .iload 4, 2), (41, .invokevirtual 29, 3), (44, .bipush 48, 2), (46, .isub, 1), (47, .iadd, 1), (48, .istore_n 3, 1), (49, .iinc 4 1, 3), (52, .goto (-38), 3), (55, .iload_n 3, 1), (56, .ireturn, 1)]
set_option maxRecDepth 100000 in
theorem kX8_numberValue : tX8_numberValue.all (fun q => decide (decode cX8_numberValue q.1 = .ok q.2)) = true := by decide +kernel
def tX9_init : List (Nat × Instr × Nat) := [(0, .aload_n 0, 1), (1, .invokespecial 1, 3), (4, .new 7, 3), (7, .dup, 1), (8, .invokespecial 9, 3), (11, .astore_n 1, 1), (12, .aload_n 0, 1), (13, .new 10, 3), (16, .dup, 1), (17, .invokespecial 12, 3), (20, .putfield 13, 3), (23, .aload_n 0, 1), (24, .new 19, 3), (27, .dup, 1), (28, .aload_n 0, 1), (29, .getfield 13, 3), (32, .aload_n 1, 1), (33, .invokespecial 21, 3), (36, .putfield 24, 3), (39, .aload_n 0, 1), (40, .new 28, 3), (43, .dup, 1), (44, .aload_n 1, 1), (45, .invokespecial 30, 3), (48, .putfield 33, 3), (51, .aload_n 0, 1), (52, .iconst 4, 1), (53, .anewarray 28, 3), (56, .putfield 37, 3), (59, .iconst 0, 1), (60, .istore_n 2, 1), (61, .iload_n 2, 1), (62, .aload_n 0, 1), (63, .getfield 37, 3), (66, .arraylength, 1), (67, .if_icmp .ge 23, 3), (70, .aload_n 0, 1), (71, .getfield 37, 3), (74, .iload_n 2, 1), (75, .new 28, 3), (78, .dup, 1), (79, .aload_n 1, 1), (80, .invokespecial 30, 3), (83, .aastore, 1), (84, .iinc 2 1, 3), (87, .goto (-26), 3), (90, .aload_n 0, 1), (91, .new 41, 3), (94, .dup, 1), (95, .aload_n 1, 1), (96, .bipush 16, 2), (98, .invokespecial 43, 3), (101, .putfield 46, 3), (104, .aload_n 0, 1), (105, .new 41, 3), (108, .dup, 1), (109, .aload_n 1, 1), (110, .sipush 300, 3), (113, .invokespecial 43, 3), (116, .putfield 50, 3), (119, .aload_n 0, 1), (120, .new 53, 3), (123, .dup, 1), (124, .invokespecial 55, 3), (127, .putfield 56, 3), (130, .aload_n 0, 1), (131, .new 60, 3), (134, .dup, 1), (135, .invokespecial 62, 3), (138, .putfield 63, 3), (141, .return_, 1)]
set_option maxRecDepth 100000 in
theorem kX9_init : tX9_init.all (fun q => decide (decode cX9_init q.1 = .ok q.2)) = true := by decide +kernel
def tX9_feed : List (Nat × Instr × Nat) := [(0, .aload_n 0, 1), (1, .getfield 13, 3), (4, .lload_n 1, 1), (5, .invokevirtual 67, 3), (8, .aload_n 0, 1), (9, .getfield 13, 3), (12, .lload_n 3, 1), (13, .invokevirtual 67, 3), (16, .aload_n 0, 1), (17, .getfield 13, 3), (20, .lload 5, 2), (22, .invokevirtual 67, 3), (25, .aload_n 0, 1), (26, .getfield 13, 3), (29, .getfield 71, 3), (32, .ireturn, 1)]
set_option maxRecDepth 100000 in
theorem kX9_feed : tX9_feed.all (fun q => decide (decode cX9_feed q.1 = .ok q.2)) = true := by decide +kernel
def tX9_river : List (Nat × Instr × Nat) := [(0, .aload_n 0, 1), (1, .getfield 13, 3), (4, .invokevirtual 75, 3), (7, .aload_n 0, 1), (8, .getfield 24, 3), (11, .new 7, 3), (14, .dup, 1), (15, .invokespecial 9, 3), (18, .invokevirtual 78, 3), (21, .istore_n 1, 1), (22, .aload_n 0, 1), (23, .getfield 13, 3), (26, .iconst 0, 1), (27, .putfield 71, 3), (30, .iload_n 1, 1), (31, .ifCond .ne 21, 3), (34, .aload_n 0, 1), (35, .getfield 33, 3), (38, .aload_n 0, 1), (39, .getfield 24, 3), (42, .getfield 82, 3), (45, .invokevirtual 86, 3), (48, .aload_n 0, 1), (49, .invokevirtual 89, 3), (52, .iload_n 1, 1), (53, .ireturn, 1)]
set_option maxRecDepth 100000 in
theorem kX9_river : tX9_river.all (fun q => decide (decode cX9_river q.1 = .ok q.2)) = true := by decide +kernel
def tX9_person : List (Nat × Instr × Nat) := [(0, .aload_n 0, 1), (1, .getfield 33, 3), (4, .getfield 92, 3), (7, .astore_n 3, 1), (8, .aload_n 0, 1), (9, .iload_n 1, 1), (10, .invokevirtual 93, 3), (13, .ifCond .ne 5, 3), (16, .iconst (-1), 1), (17, .ireturn, 1), (18, .iload_n 2, 1), (19, .tableswitch 106 0 5 #[37, 49, 61, 73, 82, 94], 37), (56, .aload_n 3, 1), (57, .getfield 97, 3), (60, .getfield 101, 3), (63, .iload_n 1, 1), (64, .invokestatic 107, 3), (67, .ireturn, 1), (68, .aload_n 3, 1), (69, .getfield 97, 3), (72, .getfield 111, 3), (75, .iload_n 1, 1), (76, .invokestatic 107, 3), (79, .ireturn, 1), (80, .aload_n 3, 1), (81, .getfield 97, 3), (84, .getfield 114, 3), (87, .iload_n 1, 1), (88, .invokestatic 107, 3), (91, .ireturn, 1), (92, .aload_n 3, 1), (93, .getfield 117, 3), (96, .iload_n 1, 1), (97, .invokestatic 107, 3), (100, .ireturn, 1), (101, .aload_n 3, 1), (102, .getfield 120, 3), (105, .iload_n 1, 1), (106, .invokestatic 107, 3), (109, .bipush 81, 2), (111, .isub, 1), (112, .ireturn, 1), (113, .aload_n 3, 1), (114, .getfield 97, 3), (117, .getfield 123, 3), (120, .iload_n 1, 1), (121, .invokestatic 107, 3), (124, .ireturn, 1), (125, .iconst (-1), 1), (126, .ireturn, 1)]
set_option maxRecDepth 100000 in
theorem kX9_person : tX9_person.all (fun q => decide (decode cX9_person q.1 = .ok q.2)) = true := by decide +kernel
def tX9_use : List (Nat × Instr × Nat) := [(0, .iload_n 1, 1), (1, .iconst (-1), 1), (2, .if_icmp .lt 17, 3), (5, .iload_n 1, 1), (6, .aload_n 0, 1), (7, .getfield 33, 3), (10, .getfield 92, 3), (13, .getfield 126, 3), (16, .if_icmp .lt 5, 3), (19, .iconst 0, 1), (20, .ireturn, 1), (21, .aload_n 0, 1), (22, .getfield 33, 3), (25, .iload_n 1, 1), (26, .putfield 129, 3), (29, .aload_n 0, 1), (30, .invokevirtual 89, 3), (33, .iconst 1, 1), (34, .ireturn, 1)]
set_option maxRecDepth 100000 in
theorem kX9_use : tX9_use.all (fun q => decide (decode cX9_use q.1 = .ok q.2)) = true := by decide +kernel
def tX9_rings : List (Nat × Instr × Nat) := [(0, .aload_n 0, 1), (1, .invokevirtual 132, 3), (4, .aload_n 0, 1), (5, .getfield 46, 3), (8, .getfield 135, 3), (11, .ireturn, 1)]
set_option maxRecDepth 100000 in
theorem kX9_rings : tX9_rings.all (fun q => decide (decode cX9_rings q.1 = .ok q.2)) = true := by decide +kernel
def tX9_ring : List (Nat × Instr × Nat) := [(0, .aload_n 0, 1), (1, .invokevirtual 132, 3), (4, .iload_n 1, 1), (5, .ifCond .lt 14, 3), (8, .iload_n 1, 1), (9, .aload_n 0, 1), (10, .getfield 46, 3), (13, .getfield 135, 3), (16, .if_icmp .lt 5, 3), (19, .iconst (-1), 1), (20, .ireturn, 1), (21, .iload_n 2, 1), (22, .tableswitch 62 0 2 #[26, 38, 50], 26), (48, .aload_n 0, 1), (49, .getfield 46, 3), (52, .getfield 138, 3), (55, .iload_n 1, 1), (56, .invokestatic 107, 3), (59, .ireturn, 1), (60, .aload_n 0, 1), (61, .getfield 46, 3), (64, .getfield 141, 3), (67, .iload_n 1, 1), (68, .invokestatic 107, 3), (71, .ireturn, 1), (72, .aload_n 0, 1), (73, .getfield 46, 3), (76, .getfield 144, 3), (79, .iload_n 1, 1), (80, .invokestatic 107, 3), (83, .ireturn, 1), (84, .iconst (-1), 1), (85, .ireturn, 1)]
set_option maxRecDepth 100000 in
theorem kX9_ring : tX9_ring.all (fun q => decide (decode cX9_ring q.1 = .ok q.2)) = true := by decide +kernel
def tX9_waits : List (Nat × Instr × Nat) := [(0, .aload_n 0, 1), (1, .invokevirtual 132, 3), (4, .aload_n 0, 1), (5, .iload_n 1, 1), (6, .invokevirtual 93, 3), (9, .ifCond .ne 5, 3), (12, .iconst (-1), 1), (13, .ireturn, 1), (14, .iload_n 2, 1), (15, .lookupswitch 46 #[(0, 25), (1, 34)], 25), (40, .aload_n 0, 1), (41, .getfield 46, 3), (44, .iload_n 1, 1), (45, .invokevirtual 147, 3), (48, .ireturn, 1), (49, .aload_n 0, 1), (50, .getfield 46, 3), (53, .getfield 151, 3), (56, .iload_n 1, 1), (57, .invokestatic 107, 3), (60, .ireturn, 1), (61, .iconst (-1), 1), (62, .ireturn, 1)]
set_option maxRecDepth 100000 in
theorem kX9_waits : tX9_waits.all (fun q => decide (decode cX9_waits q.1 = .ok q.2)) = true := by decide +kernel
def tX9_all : List (Nat × Instr × Nat) := [(0, .aload_n 0, 1), (1, .invokevirtual 132, 3), (4, .iload_n 1, 1), (5, .tableswitch 49 0 2 #[27, 36, 44], 27), (32, .aload_n 0, 1), (33, .getfield 46, 3), (36, .iconst (-1), 1), (37, .invokevirtual 154, 3), (40, .ireturn, 1), (41, .aload_n 0, 1), (42, .getfield 46, 3), (45, .invokevirtual 157, 3), (48, .ireturn, 1), (49, .aload_n 0, 1), (50, .invokevirtual 161, 3), (53, .ireturn, 1), (54, .iconst (-1), 1), (55, .ireturn, 1)]
set_option maxRecDepth 100000 in
theorem kX9_all : tX9_all.all (fun q => decide (decode cX9_all q.1 = .ok q.2)) = true := by decide +kernel
def tX9_bank : List (Nat × Instr × Nat) := [(0, .iload_n 1, 1), (1, .ifCond .lt 15, 3), (4, .iload_n 1, 1), (5, .iconst 2, 1), (6, .if_icmp .ge 10, 3), (9, .iload_n 2, 1), (10, .invokestatic 164, 3), (13, .ifCond .ne 5, 3), (16, .iconst (-1), 1), (17, .ireturn, 1), (18, .aload_n 0, 1), (19, .invokevirtual 132, 3), (22, .iload_n 3, 1), (23, .tableswitch 72 0 2 #[25, 32, 52], 25), (48, .aload_n 0, 1), (49, .iload_n 1, 1), (50, .iload_n 2, 1), (51, .invokevirtual 167, 3), (54, .ireturn, 1), (55, .aload_n 0, 1), (56, .aload_n 0, 1), (57, .getfield 33, 3), (60, .getfield 92, 3), (63, .getfield 97, 3), (66, .getfield 123, 3), (69, .iload_n 1, 1), (70, .iload_n 2, 1), (71, .invokevirtual 171, 3), (74, .ireturn, 1), (75, .aload_n 0, 1), (76, .aload_n 0, 1), (77, .getfield 33, 3), (80, .getfield 92, 3), (83, .getfield 97, 3), (86, .getfield 114, 3), (89, .iload_n 1, 1), (90, .iload_n 2, 1), (91, .invokevirtual 171, 3), (94, .ireturn, 1), (95, .iconst (-1), 1), (96, .ireturn, 1)]
set_option maxRecDepth 100000 in
theorem kX9_bank : tX9_bank.all (fun q => decide (decode cX9_bank q.1 = .ok q.2)) = true := by decide +kernel
def tX9_send : List (Nat × Instr × Nat) := [(0, .iload_n 1, 1), (1, .invokestatic 164, 3), (4, .ifCond .eq 12, 3), (7, .iload_n 2, 1), (8, .ifCond .lt 8, 3), (11, .iload_n 2, 1), (12, .iconst 1, 1), (13, .if_icmp .le 5, 3), (16, .iconst (-1), 1), (17, .ireturn, 1), (18, .aload_n 0, 1), (19, .aload_n 0, 1), (20, .getfield 33, 3), (23, .getfield 129, 3), (26, .invokevirtual 175, 3), (29, .aload_n 0, 1), (30, .getfield 50, 3), (33, .iload_n 1, 1), (34, .invokevirtual 179, 3), (37, .aload_n 0, 1), (38, .getfield 50, 3), (41, .iload_n 1, 1), (42, .invokevirtual 182, 3), (45, .aload_n 0, 1), (46, .getfield 50, 3), (49, .iload_n 1, 1), (50, .invokevirtual 185, 3), (53, .ifCond .eq 13, 3), (56, .iload_n 2, 1), (57, .ifCond .ne 7, 3), (60, .iconst 0, 1), (61, .goto 4, 3), (64, .iconst (-1), 1), (65, .ireturn, 1), (66, .iconst 1, 1), (67, .istore_n 3, 1), (68, .iload_n 3, 1), (69, .bipush 40, 2), (71, .if_icmp .gt 49, 3), (74, .iconst 0, 1), (75, .istore 4, 2), (77, .iload 4, 2), (79, .iconst 2, 1), (80, .if_icmp .ge 34, 3), (83, .aload_n 0, 1), (84, .getfield 50, 3), (87, .iload 4, 2), (89, .iload_n 3, 1), (90, .iload_n 1, 1), (91, .invokevirtual 188, 3), (94, .ifCond .eq 14, 3), (97, .iload_n 2, 1), (98, .ifCond .ne 7, 3), (101, .iload_n 3, 1), (102, .goto 5, 3), (105, .iload 4, 2), (107, .ireturn, 1), (108, .iinc 4 1, 3), (111, .goto (-34), 3), (114, .iinc 3 1, 3), (117, .goto (-49), 3), (120, .iconst (-1), 1), (121, .ireturn, 1)]
set_option maxRecDepth 100000 in
theorem kX9_send : tX9_send.all (fun q => decide (decode cX9_send q.1 = .ok q.2)) = true := by decide +kernel
def tX9_turn : List (Nat × Instr × Nat) := [(0, .aload_n 0, 1), (1, .invokevirtual 132, 3), (4, .aload_n 0, 1), (5, .iload_n 1, 1), (6, .iload_n 2, 1), (7, .invokevirtual 192, 3), (10, .ifCond .ne 13, 3), (13, .new 196, 3), (16, .dup, 1), (17, .ldc 198, 2), (19, .invokespecial 200, 3), (22, .athrow, 1), (23, .aload_n 0, 1), (24, .iload_n 1, 1), (25, .iload_n 2, 1), (26, .invokevirtual 203, 3), (29, .ireturn, 1)]
set_option maxRecDepth 100000 in
theorem kX9_turn : tX9_turn.all (fun q => decide (decode cX9_turn q.1 = .ok q.2)) = true := by decide +kernel
def tX9_asks : List (Nat × Instr × Nat) := [(0, .aload_n 0, 1), (1, .invokevirtual 132, 3), (4, .iconst (-1), 1), (5, .istore_n 2, 1), (6, .iconst 0, 1), (7, .istore_n 3, 1), (8, .iconst 0, 1), (9, .istore 4, 2), (11, .iload 4, 2), (13, .aload_n 0, 1), (14, .getfield 33, 3), (17, .getfield 92, 3), (20, .getfield 97, 3), (23, .getfield 206, 3), (26, .if_icmp .ge 45, 3), (29, .aload_n 0, 1), (30, .iload 4, 2), (32, .iload_n 1, 1), (33, .invokevirtual 192, 3), (36, .ifCond .eq 29, 3), (39, .aload_n 0, 1), (40, .iload 4, 2), (42, .iload_n 1, 1), (43, .invokevirtual 203, 3), (46, .istore 5, 2), (48, .iload_n 2, 1), (49, .iconst (-1), 1), (50, .if_icmp .eq 9, 3), (53, .iload 5, 2), (55, .iload_n 3, 1), (56, .if_icmp .le 9, 3), (59, .iload 4, 2), (61, .istore_n 2, 1), (62, .iload 5, 2), (64, .istore_n 3, 1), (65, .iinc 4 1, 3), (68, .goto (-57), 3), (71, .iload_n 2, 1), (72, .ireturn, 1)]
set_option maxRecDepth 100000 in
theorem kX9_asks : tX9_asks.all (fun q => decide (decode cX9_asks q.1 = .ok q.2)) = true := by decide +kernel
def tX9_choice : List (Nat × Instr × Nat) := [(0, .aload_n 0, 1), (1, .getfield 56, 3), (4, .aload_n 0, 1), (5, .getfield 33, 3), (8, .aload_n 0, 1), (9, .getfield 50, 3), (12, .invokevirtual 209, 3), (15, .iload_n 1, 1), (16, .lookupswitch 54 #[(0, 28), (1, 46)], 28), (44, .aload_n 0, 1), (45, .getfield 56, 3), (48, .getfield 213, 3), (51, .aload_n 0, 1), (52, .getfield 56, 3), (55, .getfield 214, 3), (58, .invokestatic 107, 3), (61, .ireturn, 1), (62, .aload_n 0, 1), (63, .getfield 56, 3), (66, .getfield 214, 3), (69, .ireturn, 1), (70, .iconst (-1), 1), (71, .ireturn, 1)]
set_option maxRecDepth 100000 in
theorem kX9_choice : tX9_choice.all (fun q => decide (decode cX9_choice q.1 = .ok q.2)) = true := by decide +kernel
def tX9_chosen : List (Nat × Instr × Nat) := [(0, .aload_n 0, 1), (1, .getfield 33, 3), (4, .getfield 92, 3), (7, .astore_n 2, 1), (8, .iload_n 1, 1), (9, .ifCond .lt 13, 3), (12, .iload_n 1, 1), (13, .iconst 1, 1), (14, .aload_n 2, 1), (15, .getfield 217, 3), (18, .ishl, 1), (19, .if_icmp .lt 5, 3), (22, .iconst (-1), 1), (23, .ireturn, 1), (24, .aload_n 0, 1), (25, .getfield 56, 3), (28, .aload_n 2, 1), (29, .iload_n 1, 1), (30, .invokevirtual 220, 3), (33, .aload_n 0, 1), (34, .getfield 50, 3), (37, .aload_n 2, 1), (38, .aload_n 0, 1), (39, .getfield 33, 3), (42, .getfield 129, 3), (45, .aload_n 2, 1), (46, .getfield 97, 3), (49, .aload_n 0, 1), (50, .getfield 56, 3), (53, .getfield 223, 3), (56, .invokevirtual 224, 3), (59, .aload_n 0, 1), (60, .getfield 50, 3), (63, .sipush 1440, 3), (66, .invokevirtual 179, 3), (69, .aload_n 0, 1), (70, .getfield 50, 3), (73, .iconst (-1), 1), (74, .invokevirtual 154, 3), (77, .ireturn, 1)]
set_option maxRecDepth 100000 in
theorem kX9_chosen : tX9_chosen.all (fun q => decide (decode cX9_chosen q.1 = .ok q.2)) = true := by decide +kernel
def tX9_rests : List (Nat × Instr × Nat) := [(0, .aload_n 0, 1), (1, .getfield 56, 3), (4, .aload_n 0, 1), (5, .getfield 33, 3), (8, .aload_n 0, 1), (9, .getfield 50, 3), (12, .invokevirtual 209, 3), (15, .aload_n 0, 1), (16, .getfield 56, 3), (19, .getfield 228, 3), (22, .ireturn, 1)]
set_option maxRecDepth 100000 in
theorem kX9_rests : tX9_rests.all (fun q => decide (decode cX9_rests q.1 = .ok q.2)) = true := by decide +kernel
def tX9_rest : List (Nat × Instr × Nat) := [(0, .aload_n 0, 1), (1, .getfield 56, 3), (4, .aload_n 0, 1), (5, .getfield 33, 3), (8, .aload_n 0, 1), (9, .getfield 50, 3), (12, .invokevirtual 209, 3), (15, .iload_n 1, 1), (16, .ifCond .lt 14, 3), (19, .iload_n 1, 1), (20, .aload_n 0, 1), (21, .getfield 56, 3), (24, .getfield 228, 3), (27, .if_icmp .lt 7, 3), (30, .iconst (-1), 1), (31, .goto 14, 3), (34, .aload_n 0, 1), (35, .getfield 56, 3), (38, .getfield 231, 3), (41, .iload_n 1, 1), (42, .invokestatic 107, 3), (45, .ireturn, 1)]
set_option maxRecDepth 100000 in
theorem kX9_rest : tX9_rest.all (fun q => decide (decode cX9_rest q.1 = .ok q.2)) = true := by decide +kernel
def tX9_tell : List (Nat × Instr × Nat) := [(0, .aload_n 0, 1), (1, .getfield 33, 3), (4, .iload_n 1, 1), (5, .invokevirtual 234, 3), (8, .ifCond .eq 13, 3), (11, .aload_n 0, 1), (12, .getfield 33, 3), (15, .getfield 237, 3), (18, .goto 4, 3), (21, .iconst (-1), 1), (22, .ireturn, 1)]
set_option maxRecDepth 100000 in
theorem kX9_tell : tX9_tell.all (fun q => decide (decode cX9_tell q.1 = .ok q.2)) = true := by decide +kernel
def tX9_clear : List (Nat × Instr × Nat) := [(0, .aload_n 0, 1), (1, .getfield 33, 3), (4, .iconst 0, 1), (5, .putfield 237, 3), (8, .iconst 1, 1), (9, .ireturn, 1)]
set_option maxRecDepth 100000 in
theorem kX9_clear : tX9_clear.all (fun q => decide (decode cX9_clear q.1 = .ok q.2)) = true := by decide +kernel
def tX9_judged : List (Nat × Instr × Nat) := [(0, .iload_n 1, 1), (1, .ifCond .lt 8, 3), (4, .iload_n 1, 1), (5, .iconst 1, 1), (6, .if_icmp .le 5, 3), (9, .iconst (-1), 1), (10, .ireturn, 1), (11, .aload_n 0, 1), (12, .aload_n 0, 1), (13, .getfield 33, 3), (16, .getfield 129, 3), (19, .invokevirtual 175, 3), (22, .aload_n 0, 1), (23, .getfield 50, 3), (26, .aload_n 0, 1), (27, .getfield 33, 3), (30, .getfield 240, 3), (33, .aload_n 0, 1), (34, .getfield 33, 3), (37, .getfield 237, 3), (40, .invokevirtual 243, 3), (43, .istore_n 2, 1), (44, .iload_n 2, 1), (45, .iconst (-1), 1), (46, .if_icmp .eq 7, 3), (49, .iload_n 1, 1), (50, .ifCond .ne 5, 3), (53, .iload_n 2, 1), (54, .ireturn, 1), (55, .aload_n 0, 1), (56, .getfield 33, 3), (59, .iload_n 2, 1), (60, .invokevirtual 246, 3), (63, .ifCond .eq 7, 3), (66, .iconst 1, 1), (67, .goto 4, 3), (70, .iconst 2, 1), (71, .ireturn, 1)]
set_option maxRecDepth 100000 in
theorem kX9_judged : tX9_judged.all (fun q => decide (decode cX9_judged q.1 = .ok q.2)) = true := by decide +kernel
def tX9_likely : List (Nat × Instr × Nat) := [(0, .iload_n 1, 1), (1, .iconst 1, 1), (2, .if_icmp .lt 18, 3), (5, .iload_n 1, 1), (6, .bipush 16, 2), (8, .if_icmp .gt 12, 3), (11, .iload_n 2, 1), (12, .ifCond .lt 8, 3), (15, .iload_n 2, 1), (16, .iconst 1, 1), (17, .if_icmp .le 7, 3), (20, .ldc2_w 249, 3), (23, .lreturn, 1), (24, .aload_n 0, 1), (25, .iload_n 1, 1), (26, .iconst 0, 1), (27, .invokevirtual 251, 3), (30, .lstore_n 3, 1), (31, .aload_n 0, 1), (32, .getfield 33, 3), (35, .getfield 92, 3), (38, .getfield 255, 3), (41, .i2l, 1), (42, .aload_n 0, 1), (43, .getfield 33, 3), (46, .getfield 92, 3), (49, .getfield 255, 3), (52, .i2l, 1), (53, .lmul, 1), (54, .iload_n 1, 1), (55, .iconst 2, 1), (56, .idiv, 1), (57, .invokestatic 258, 3), (60, .lstore 5, 2), (62, .iload_n 2, 1), (63, .ifCond .ne 7, 3), (66, .lload_n 3, 1), (67, .goto 5, 3), (70, .lload 5, 2), (72, .lload_n 3, 1), (73, .lload 5, 2), (75, .invokestatic 262, 3), (78, .lreturn, 1)]
set_option maxRecDepth 100000 in
theorem kX9_likely : tX9_likely.all (fun q => decide (decode cX9_likely q.1 = .ok q.2)) = true := by decide +kernel
def tX9_mean : List (Nat × Instr × Nat) := [(0, .iload_n 1, 1), (1, .iconst 2, 1), (2, .if_icmp .lt 18, 3), (5, .iload_n 1, 1), (6, .bipush 16, 2), (8, .if_icmp .gt 12, 3), (11, .iload_n 2, 1), (12, .ifCond .lt 8, 3), (15, .iload_n 2, 1), (16, .iconst 1, 1), (17, .if_icmp .le 7, 3), (20, .ldc2_w 249, 3), (23, .lreturn, 1), (24, .aload_n 0, 1), (25, .iload_n 1, 1), (26, .iconst 1, 1), (27, .invokevirtual 251, 3), (30, .lstore_n 3, 1), (31, .aload_n 0, 1), (32, .iload_n 1, 1), (33, .iconst 0, 1), (34, .invokevirtual 251, 3), (37, .lstore 5, 2), (39, .iload_n 2, 1), (40, .ifCond .ne 7, 3), (43, .lload_n 3, 1), (44, .goto 5, 3), (47, .lload 5, 2), (49, .lload_n 3, 1), (50, .lload 5, 2), (52, .invokestatic 262, 3), (55, .lreturn, 1)]
set_option maxRecDepth 100000 in
theorem kX9_mean : tX9_mean.all (fun q => decide (decode cX9_mean q.1 = .ok q.2)) = true := by decide +kernel
def tX9_came : List (Nat × Instr × Nat) := [(0, .iload_n 1, 1), (1, .iconst 1, 1), (2, .if_icmp .lt 9, 3), (5, .iload_n 1, 1), (6, .bipush 15, 2), (8, .if_icmp .le 9, 3), (11, .ldc2_w 249, 3), (14, .goto 7, 3), (17, .iload_n 1, 1), (18, .invokestatic 266, 3), (21, .lreturn, 1)]
set_option maxRecDepth 100000 in
theorem kX9_came : tX9_came.all (fun q => decide (decode cX9_came q.1 = .ok q.2)) = true := by decide +kernel
def tX9_lots : List (Nat × Instr × Nat) := [(0, .iload_n 1, 1), (1, .ifCond .lt 30, 3), (4, .iload_n 1, 1), (5, .sipush 9999, 3), (8, .if_icmp .gt 23, 3), (11, .iload_n 2, 1), (12, .iconst 1, 1), (13, .if_icmp .lt 18, 3), (16, .iload_n 2, 1), (17, .bipush 50, 2), (19, .if_icmp .gt 12, 3), (22, .iload_n 3, 1), (23, .ifCond .lt 8, 3), (26, .iload_n 3, 1), (27, .iconst 4, 1), (28, .if_icmp .le 5, 3), (31, .iconst (-1), 1), (32, .ireturn, 1), (33, .aload_n 0, 1), (34, .getfield 63, 3), (37, .iload_n 1, 1), (38, .iload_n 2, 1), (39, .invokevirtual 270, 3), (42, .ifCond .ne 20, 3), (45, .aload_n 0, 1), (46, .getfield 63, 3), (49, .aload_n 0, 1), (50, .getfield 33, 3), (53, .aload_n 0, 1), (54, .getfield 50, 3), (57, .iload_n 1, 1), (58, .iload_n 2, 1), (59, .invokevirtual 273, 3), (62, .iload_n 3, 1), (63, .tableswitch 61 0 3 #[29, 37, 45, 53], 29), (92, .aload_n 0, 1), (93, .getfield 63, 3), (96, .getfield 277, 3), (99, .ireturn, 1), (100, .aload_n 0, 1), (101, .getfield 63, 3), (104, .getfield 278, 3), (107, .ireturn, 1), (108, .aload_n 0, 1), (109, .getfield 63, 3), (112, .getfield 281, 3), (115, .ireturn, 1), (116, .aload_n 0, 1), (117, .getfield 63, 3), (120, .getfield 284, 3), (123, .ireturn, 1), (124, .aload_n 0, 1), (125, .getfield 63, 3), (128, .getfield 287, 3), (131, .ireturn, 1)]
set_option maxRecDepth 100000 in
theorem kX9_lots : tX9_lots.all (fun q => decide (decode cX9_lots q.1 = .ok q.2)) = true := by decide +kernel
def tX9_best : List (Nat × Instr × Nat) := [(0, .iconst (-1), 1), (1, .istore_n 1, 1), (2, .iconst 0, 1), (3, .istore_n 2, 1), (4, .iconst 0, 1), (5, .istore_n 3, 1), (6, .iload_n 3, 1), (7, .aload_n 0, 1), (8, .getfield 33, 3), (11, .getfield 92, 3), (14, .getfield 126, 3), (17, .if_icmp .ge 50, 3), (20, .aload_n 0, 1), (21, .iload_n 3, 1), (22, .invokevirtual 175, 3), (25, .aload_n 0, 1), (26, .getfield 50, 3), (29, .sipush 1440, 3), (32, .invokevirtual 179, 3), (35, .aload_n 0, 1), (36, .getfield 50, 3), (39, .iconst (-1), 1), (40, .invokevirtual 154, 3), (43, .istore 4, 2), (45, .iload_n 1, 1), (46, .iconst (-1), 1), (47, .if_icmp .eq 9, 3), (50, .iload 4, 2), (52, .iload_n 2, 1), (53, .if_icmp .ge 8, 3), (56, .iload_n 3, 1), (57, .istore_n 1, 1), (58, .iload 4, 2), (60, .istore_n 2, 1), (61, .iinc 3 1, 3), (64, .goto (-58), 3), (67, .iload_n 1, 1), (68, .ireturn, 1)]
set_option maxRecDepth 100000 in
theorem kX9_best : tX9_best.all (fun q => decide (decode cX9_best q.1 = .ok q.2)) = true := by decide +kernel
def tX9_mark : List (Nat × Instr × Nat) := [(0, .iload_n 1, 1), (1, .ifCond .lt 12, 3), (4, .iload_n 1, 1), (5, .aload_n 0, 1), (6, .getfield 37, 3), (9, .arraylength, 1), (10, .if_icmp .lt 5, 3), (13, .iconst 0, 1), (14, .ireturn, 1), (15, .iload_n 2, 1), (16, .ifCond .ne 28, 3), (19, .aload_n 0, 1), (20, .getfield 37, 3), (23, .iload_n 1, 1), (24, .aaload, 1), (25, .aload_n 0, 1), (26, .getfield 33, 3), (29, .invokevirtual 290, 3), (32, .aload_n 0, 1), (33, .getfield 37, 3), (36, .iload_n 1, 1), (37, .aaload, 1), (38, .iconst 1, 1), (39, .putfield 294, 3), (42, .iconst 1, 1), (43, .ireturn, 1), (44, .aload_n 0, 1), (45, .getfield 37, 3), (48, .iload_n 1, 1), (49, .aaload, 1), (50, .getfield 294, 3), (53, .ifCond .ne 5, 3), (56, .iconst 0, 1), (57, .ireturn, 1), (58, .aload_n 0, 1), (59, .getfield 33, 3), (62, .aload_n 0, 1), (63, .getfield 37, 3), (66, .iload_n 1, 1), (67, .aaload, 1), (68, .invokevirtual 290, 3), (71, .aload_n 0, 1), (72, .invokevirtual 89, 3), (75, .iconst 1, 1), (76, .ireturn, 1)]
set_option maxRecDepth 100000 in
theorem kX9_mark : tX9_mark.all (fun q => decide (decode cX9_mark q.1 = .ok q.2)) = true := by decide +kernel
def tX9_count : List (Nat × Instr × Nat) := [(0, .aload_n 0, 1), (1, .getfield 33, 3), (4, .getfield 92, 3), (7, .astore_n 2, 1), (8, .iload_n 1, 1), (9, .tableswitch 108 0 8 #[51, 59, 64, 72, 77, 82, 87, 92, 100], 51), (60, .aload_n 2, 1), (61, .getfield 97, 3), (64, .getfield 206, 3), (67, .ireturn, 1), (68, .aload_n 2, 1), (69, .getfield 126, 3), (72, .ireturn, 1), (73, .aload_n 0, 1), (74, .getfield 33, 3), (77, .getfield 129, 3), (80, .ireturn, 1), (81, .aload_n 2, 1), (82, .getfield 298, 3), (85, .ireturn, 1), (86, .aload_n 2, 1), (87, .getfield 301, 3), (90, .ireturn, 1), (91, .aload_n 2, 1), (92, .getfield 304, 3), (95, .ireturn, 1), (96, .aload_n 2, 1), (97, .getfield 217, 3), (100, .ireturn, 1), (101, .aload_n 0, 1), (102, .getfield 33, 3), (105, .getfield 237, 3), (108, .ireturn, 1), (109, .aload_n 0, 1), (110, .getfield 13, 3), (113, .getfield 71, 3), (116, .ireturn, 1), (117, .iconst (-1), 1), (118, .ireturn, 1)]
set_option maxRecDepth 100000 in
theorem kX9_count : tX9_count.all (fun q => decide (decode cX9_count q.1 = .ok q.2)) = true := by decide +kernel
def tX9_get : List (Nat × Instr × Nat) := [(0, .iload_n 1, 1), (1, .ifCond .lt 15, 3), (4, .iload_n 1, 1), (5, .aload_n 0, 1), (6, .arraylength, 1), (7, .if_icmp .ge 9, 3), (10, .aload_n 0, 1), (11, .iload_n 1, 1), (12, .iaload, 1), (13, .goto 4, 3), (16, .iconst 0, 1), (17, .ireturn, 1)]
set_option maxRecDepth 100000 in
theorem kX9_get : tX9_get.all (fun q => decide (decode cX9_get q.1 = .ok q.2)) = true := by decide +kernel
def tX9_set : List (Nat × Instr × Nat) := [(0, .iload_n 1, 1), (1, .ifCond .lt 13, 3), (4, .iload_n 1, 1), (5, .aload_n 0, 1), (6, .arraylength, 1), (7, .if_icmp .ge 7, 3), (10, .aload_n 0, 1), (11, .iload_n 1, 1), (12, .iload_n 2, 1), (13, .iastore, 1), (14, .return_, 1)]
set_option maxRecDepth 100000 in
theorem kX9_set : tX9_set.all (fun q => decide (decode cX9_set q.1 = .ok q.2)) = true := by decide +kernel
def tX9_isMinute : List (Nat × Instr × Nat) := [(0, .iload_n 0, 1), (1, .ifCond .lt 14, 3), (4, .iload_n 0, 1), (5, .sipush 1440, 3), (8, .if_icmp .ge 7, 3), (11, .iconst 1, 1), (12, .goto 4, 3), (15, .iconst 0, 1), (16, .ireturn, 1)]
set_option maxRecDepth 100000 in
theorem kX9_isMinute : tX9_isMinute.all (fun q => decide (decode cX9_isMinute q.1 = .ok q.2)) = true := by decide +kernel
def tX9_isPerson : List (Nat × Instr × Nat) := [(0, .iload_n 1, 1), (1, .ifCond .lt 24, 3), (4, .iload_n 1, 1), (5, .aload_n 0, 1), (6, .getfield 33, 3), (9, .getfield 92, 3), (12, .getfield 97, 3), (15, .getfield 206, 3), (18, .if_icmp .ge 7, 3), (21, .iconst 1, 1), (22, .goto 4, 3), (25, .iconst 0, 1), (26, .ireturn, 1)]
set_option maxRecDepth 100000 in
theorem kX9_isPerson : tX9_isPerson.all (fun q => decide (decode cX9_isPerson q.1 = .ok q.2)) = true := by decide +kernel
def tX9_forget : List (Nat × Instr × Nat) := [(0, .aload_n 0, 1), (1, .iconst 0, 1), (2, .putfield 307, 3), (5, .aload_n 0, 1), (6, .getfield 56, 3), (9, .iconst 0, 1), (10, .putfield 310, 3), (13, .aload_n 0, 1), (14, .getfield 63, 3), (17, .iconst 0, 1), (18, .putfield 313, 3), (21, .return_, 1)]
set_option maxRecDepth 100000 in
theorem kX9_forget : tX9_forget.all (fun q => decide (decode cX9_forget q.1 = .ok q.2)) = true := by decide +kernel
def tX9_knowDay : List (Nat × Instr × Nat) := [(0, .aload_n 0, 1), (1, .getfield 307, 3), (4, .ifCond .ne 52, 3), (7, .aload_n 0, 1), (8, .getfield 33, 3), (11, .getfield 92, 3), (14, .astore_n 1, 1), (15, .aload_n 0, 1), (16, .getfield 46, 3), (19, .aload_n 1, 1), (20, .aload_n 0, 1), (21, .getfield 33, 3), (24, .getfield 129, 3), (27, .aload_n 1, 1), (28, .getfield 97, 3), (31, .aload_n 1, 1), (32, .getfield 97, 3), (35, .getfield 101, 3), (38, .invokevirtual 224, 3), (41, .aload_n 0, 1), (42, .getfield 46, 3), (45, .sipush 1440, 3), (48, .invokevirtual 179, 3), (51, .aload_n 0, 1), (52, .iconst 1, 1), (53, .putfield 307, 3), (56, .return_, 1)]
set_option maxRecDepth 100000 in
theorem kX9_knowDay : tX9_knowDay.all (fun q => decide (decode cX9_knowDay q.1 = .ok q.2)) = true := by decide +kernel
def tX9_beginTrial : List (Nat × Instr × Nat) := [(0, .aload_n 0, 1), (1, .getfield 33, 3), (4, .getfield 92, 3), (7, .astore_n 2, 1), (8, .aload_n 0, 1), (9, .getfield 50, 3), (12, .aload_n 2, 1), (13, .iload_n 1, 1), (14, .aload_n 2, 1), (15, .getfield 97, 3), (18, .aload_n 2, 1), (19, .getfield 97, 3), (22, .getfield 101, 3), (25, .invokevirtual 224, 3), (28, .return_, 1)]
set_option maxRecDepth 100000 in
theorem kX9_beginTrial : tX9_beginTrial.all (fun q => decide (decode cX9_beginTrial q.1 = .ok q.2)) = true := by decide +kernel
def tX9_nightBits : List (Nat × Instr × Nat) := [(0, .iconst 0, 1), (1, .istore_n 1, 1), (2, .iconst 0, 1), (3, .istore_n 2, 1), (4, .iload_n 2, 1), (5, .aload_n 0, 1), (6, .getfield 33, 3), (9, .getfield 92, 3), (12, .getfield 97, 3), (15, .getfield 206, 3), (18, .if_icmp .ge 30, 3), (21, .aload_n 0, 1), (22, .getfield 46, 3), (25, .getfield 151, 3), (28, .iload_n 2, 1), (29, .invokestatic 107, 3), (32, .iconst (-1), 1), (33, .if_icmp .ne 9, 3), (36, .iload_n 1, 1), (37, .iconst 1, 1), (38, .iload_n 2, 1), (39, .ishl, 1), (40, .ior, 1), (41, .istore_n 1, 1), (42, .iinc 2 1, 3), (45, .goto (-41), 3), (48, .iload_n 1, 1), (49, .ireturn, 1)]
set_option maxRecDepth 100000 in
theorem kX9_nightBits : tX9_nightBits.all (fun q => decide (decode cX9_nightBits q.1 = .ok q.2)) = true := by decide +kernel
def tX9_waitsAt : List (Nat × Instr × Nat) := [(0, .aload_n 0, 1), (1, .getfield 33, 3), (4, .getfield 92, 3), (7, .getfield 97, 3), (10, .getfield 101, 3), (13, .iload_n 1, 1), (14, .invokestatic 107, 3), (17, .iload_n 2, 1), (18, .if_icmp .ne 19, 3), (21, .aload_n 0, 1), (22, .getfield 46, 3), (25, .iload_n 1, 1), (26, .iload_n 3, 1), (27, .invokevirtual 314, 3), (30, .ifCond .eq 7, 3), (33, .iconst 1, 1), (34, .goto 4, 3), (37, .iconst 0, 1), (38, .ireturn, 1)]
set_option maxRecDepth 100000 in
theorem kX9_waitsAt : tX9_waitsAt.all (fun q => decide (decode cX9_waitsAt q.1 = .ok q.2)) = true := by decide +kernel
def tX9_heads : List (Nat × Instr × Nat) := [(0, .iconst 0, 1), (1, .istore_n 3, 1), (2, .iconst 0, 1), (3, .istore 4, 2), (5, .iload 4, 2), (7, .aload_n 0, 1), (8, .getfield 33, 3), (11, .getfield 92, 3), (14, .getfield 97, 3), (17, .getfield 206, 3), (20, .if_icmp .ge 28, 3), (23, .iload_n 3, 1), (24, .aload_n 0, 1), (25, .iload 4, 2), (27, .iload_n 1, 1), (28, .iload_n 2, 1), (29, .invokevirtual 317, 3), (32, .ifCond .eq 7, 3), (35, .iconst 1, 1), (36, .goto 4, 3), (39, .iconst 0, 1), (40, .iadd, 1), (41, .istore_n 3, 1), (42, .iinc 4 1, 3), (45, .goto (-40), 3), (48, .iload_n 3, 1), (49, .ireturn, 1)]
set_option maxRecDepth 100000 in
theorem kX9_heads : tX9_heads.all (fun q => decide (decode cX9_heads q.1 = .ok q.2)) = true := by decide +kernel
def tX9_together : List (Nat × Instr × Nat) := [(0, .iconst 0, 1), (1, .istore 4, 2), (3, .iconst 0, 1), (4, .istore 5, 2), (6, .iload 5, 2), (8, .aload_n 0, 1), (9, .getfield 33, 3), (12, .getfield 92, 3), (15, .getfield 97, 3), (18, .getfield 206, 3), (21, .if_icmp .ge 35, 3), (24, .iload 4, 2), (26, .aload_n 0, 1), (27, .iload 5, 2), (29, .iload_n 2, 1), (30, .iload_n 3, 1), (31, .invokevirtual 317, 3), (34, .ifCond .eq 12, 3), (37, .aload_n 1, 1), (38, .iload 5, 2), (40, .invokestatic 107, 3), (43, .goto 4, 3), (46, .iconst 0, 1), (47, .iadd, 1), (48, .istore 4, 2), (50, .iinc 5 1, 3), (53, .goto (-47), 3), (56, .iload 4, 2), (58, .ireturn, 1)]
set_option maxRecDepth 100000 in
theorem kX9_together : tX9_together.all (fun q => decide (decode cX9_together q.1 = .ok q.2)) = true := by decide +kernel
def tX9_mayTurn : List (Nat × Instr × Nat) := [(0, .aload_n 0, 1), (1, .iload_n 1, 1), (2, .invokevirtual 93, 3), (5, .ifCond .eq 45, 3), (8, .iload_n 2, 1), (9, .invokestatic 164, 3), (12, .ifCond .eq 38, 3), (15, .aload_n 0, 1), (16, .getfield 33, 3), (19, .getfield 92, 3), (22, .getfield 120, 3), (25, .iload_n 1, 1), (26, .invokestatic 107, 3), (29, .bipush 85, 2), (31, .if_icmp .ne 19, 3), (34, .aload_n 0, 1), (35, .getfield 46, 3), (38, .iload_n 1, 1), (39, .iload_n 2, 1), (40, .invokevirtual 314, 3), (43, .ifCond .eq 7, 3), (46, .iconst 1, 1), (47, .goto 4, 3), (50, .iconst 0, 1), (51, .ireturn, 1)]
set_option maxRecDepth 100000 in
theorem kX9_mayTurn : tX9_mayTurn.all (fun q => decide (decode cX9_mayTurn q.1 = .ok q.2)) = true := by decide +kernel
def tX9_gainByTurning : List (Nat × Instr × Nat) := [(0, .aload_n 0, 1), (1, .aload_n 0, 1), (2, .getfield 33, 3), (5, .getfield 129, 3), (8, .invokevirtual 175, 3), (11, .aload_n 0, 1), (12, .getfield 50, 3), (15, .iload_n 1, 1), (16, .iload_n 2, 1), (17, .invokevirtual 320, 3), (20, .aload_n 0, 1), (21, .getfield 50, 3), (24, .sipush 1440, 3), (27, .invokevirtual 179, 3), (30, .aload_n 0, 1), (31, .getfield 46, 3), (34, .iload_n 1, 1), (35, .invokevirtual 154, 3), (38, .aload_n 0, 1), (39, .getfield 50, 3), (42, .iload_n 1, 1), (43, .invokevirtual 154, 3), (46, .isub, 1), (47, .ireturn, 1)]
set_option maxRecDepth 100000 in
theorem kX9_gainByTurning : tX9_gainByTurning.all (fun q => decide (decode cX9_gainByTurning q.1 = .ok q.2)) = true := by decide +kernel
def tX9_levels : List (Nat × Instr × Nat) := [(0, .aload_n 0, 1), (1, .getfield 33, 3), (4, .getfield 92, 3), (7, .getfield 255, 3), (10, .i2l, 1), (11, .lstore_n 3, 1), (12, .aload_n 0, 1), (13, .getfield 33, 3), (16, .getfield 92, 3), (19, .getfield 324, 3), (22, .i2l, 1), (23, .lload_n 3, 1), (24, .aload_n 0, 1), (25, .getfield 33, 3), (28, .getfield 92, 3), (31, .getfield 324, 3), (34, .i2l, 1), (35, .lsub, 1), (36, .lmul, 1), (37, .lstore 5, 2), (39, .lconst 1, 1), (40, .lstore 7, 2), (42, .lconst 0, 1), (43, .lstore 9, 2), (45, .iconst 1, 1), (46, .istore 11, 2), (48, .iload 11, 2), (50, .iload_n 1, 1), (51, .iconst 2, 1), (52, .idiv, 1), (53, .if_icmp .gt 52, 3), (56, .lload 7, 2), (58, .lload 5, 2), (60, .lmul, 1), (61, .lstore 7, 2), (63, .iload 11, 2), (65, .invokestatic 266, 3), (68, .lload 7, 2), (70, .lmul, 1), (71, .lstore 12, 2), (73, .lload 9, 2), (75, .lload_n 3, 1), (76, .lmul, 1), (77, .lload_n 3, 1), (78, .lmul, 1), (79, .iload_n 2, 1), (80, .ifCond .eq 14, 3), (83, .iconst 2, 1), (84, .iload 11, 2), (86, .imul, 1), (87, .i2l, 1), (88, .lload 12, 2), (90, .lmul, 1), (91, .goto 5, 3), (94, .lload 12, 2), (96, .ladd, 1), (97, .lstore 9, 2), (99, .iinc 11 1, 3), (102, .goto (-54), 3), (105, .lload 9, 2), (107, .lreturn, 1)]
set_option maxRecDepth 100000 in
theorem kX9_levels : tX9_levels.all (fun q => decide (decode cX9_levels q.1 = .ok q.2)) = true := by decide +kernel
def tX9_orders : List (Nat × Instr × Nat) := [(0, .lconst 1, 1), (1, .lstore_n 1, 1), (2, .iconst 0, 1), (3, .istore_n 3, 1), (4, .iload_n 3, 1), (5, .iload_n 0, 1), (6, .iconst 1, 1), (7, .isub, 1), (8, .if_icmp .ge 27, 3), (11, .lload_n 1, 1), (12, .ldc2_w 327, 3), (15, .lmul, 1), (16, .iconst 2, 1), (17, .iload_n 3, 1), (18, .imul, 1), (19, .iconst 1, 1), (20, .iadd, 1), (21, .i2l, 1), (22, .lmul, 1), (23, .iload_n 3, 1), (24, .iconst 2, 1), (25, .iadd, 1), (26, .i2l, 1), (27, .ldiv, 1), (28, .lstore_n 1, 1), (29, .iinc 3 1, 3), (32, .goto (-28), 3), (35, .ldc2_w 327, 3), (38, .lload_n 1, 1), (39, .lmul, 1), (40, .lreturn, 1)]
set_option maxRecDepth 100000 in
theorem kX9_orders : tX9_orders.all (fun q => decide (decode cX9_orders q.1 = .ok q.2)) = true := by decide +kernel
def tX9_power : List (Nat × Instr × Nat) := [(0, .lconst 1, 1), (1, .lstore_n 3, 1), (2, .iconst 0, 1), (3, .istore 5, 2), (5, .iload 5, 2), (7, .iload_n 2, 1), (8, .if_icmp .ge 13, 3), (11, .lload_n 3, 1), (12, .lload_n 0, 1), (13, .lmul, 1), (14, .lstore_n 3, 1), (15, .iinc 5 1, 3), (18, .goto (-13), 3), (21, .lload_n 3, 1), (22, .lreturn, 1)]
set_option maxRecDepth 100000 in
theorem kX9_power : tX9_power.all (fun q => decide (decode cX9_power q.1 = .ok q.2)) = true := by decide +kernel
def tX9_lowest : List (Nat × Instr × Nat) := [(0, .lload_n 2, 1), (1, .lstore 6, 2), (3, .lload 4, 2), (5, .lstore 8, 2), (7, .iconst 0, 1), (8, .istore 10, 2), (10, .iload 10, 2), (12, .sipush 200, 3), (15, .if_icmp .ge 31, 3), (18, .lload 8, 2), (20, .lconst 0, 1), (21, .lcmp, 1), (22, .ifCond .eq 24, 3), (25, .lload 6, 2), (27, .lload 8, 2), (29, .lrem, 1), (30, .lstore 11, 2), (32, .lload 8, 2), (34, .lstore 6, 2), (36, .lload 11, 2), (38, .lstore 8, 2), (40, .iinc 10 1, 3), (43, .goto (-33), 3), (46, .lload 6, 2), (48, .lconst 0, 1), (49, .lcmp, 1), (50, .ifCond .ne 7, 3), (53, .lload_n 0, 1), (54, .goto 7, 3), (57, .lload_n 0, 1), (58, .lload 6, 2), (60, .ldiv, 1), (61, .lreturn, 1)]
set_option maxRecDepth 100000 in
theorem kX9_lowest : tX9_lowest.all (fun q => decide (decode cX9_lowest q.1 = .ok q.2)) = true := by decide +kernel
def tX10_init : List (Nat × Instr × Nat) := [(0, .aload_n 0, 1), (1, .invokespecial 1, 3), (4, .aload_n 0, 1), (5, .sipush 1000, 3), (8, .newarray .int, 2), (10, .putfield 7, 3), (13, .aload_n 0, 1), (14, .bipush 60, 2), (16, .newarray .int, 2), (18, .putfield 13, 3), (21, .aload_n 0, 1), (22, .bipush 24, 2), (24, .newarray .int, 2), (26, .putfield 16, 3), (29, .aload_n 0, 1), (30, .bipush 24, 2), (32, .newarray .int, 2), (34, .putfield 19, 3), (37, .aload_n 0, 1), (38, .sipush 6000, 3), (41, .newarray .int, 2), (43, .putfield 22, 3), (46, .aload_n 0, 1), (47, .bipush 16, 2), (49, .newarray .long, 2), (51, .putfield 25, 3), (54, .aload_n 0, 1), (55, .bipush 96, 2), (57, .newarray .int, 2), (59, .putfield 29, 3), (62, .aload_n 0, 1), (63, .bipush 96, 2), (65, .newarray .int, 2), (67, .putfield 32, 3), (70, .aload_n 0, 1), (71, .bipush 96, 2), (73, .newarray .int, 2), (75, .putfield 35, 3), (78, .aload_n 0, 1), (79, .bipush 96, 2), (81, .newarray .int, 2), (83, .putfield 38, 3), (86, .aload_n 0, 1), (87, .bipush 96, 2), (89, .newarray .int, 2), (91, .putfield 41, 3), (94, .aload_n 0, 1), (95, .sipush 180, 3), (98, .newarray .int, 2), (100, .putfield 44, 3), (103, .aload_n 0, 1), (104, .bipush 7, 2), (106, .newarray .int, 2), (108, .putfield 47, 3), (111, .aload_n 0, 1), (112, .bipush 7, 2), (114, .newarray .boolean, 2), (116, .putfield 50, 3), (119, .aload_n 0, 1), (120, .bipush 7, 2), (122, .newarray .int, 2), (124, .putfield 54, 3), (127, .aload_n 0, 1), (128, .bipush 7, 2), (130, .newarray .int, 2), (132, .putfield 57, 3), (135, .aload_n 0, 1), (136, .bipush 7, 2), (138, .newarray .int, 2), (140, .putfield 60, 3), (143, .aload_n 0, 1), (144, .bipush 7, 2), (146, .newarray .int, 2), (148, .putfield 63, 3), (151, .aload_n 0, 1), (152, .bipush 7, 2), (154, .newarray .int, 2), (156, .putfield 66, 3), (159, .aload_n 0, 1), (160, .bipush 7, 2), (162, .newarray .int, 2), (164, .putfield 69, 3), (167, .aload_n 0, 1), (168, .bipush 7, 2), (170, .newarray .int, 2), (172, .putfield 72, 3), (175, .aload_n 0, 1), (176, .bipush 7, 2), (178, .newarray .int, 2), (180, .putfield 75, 3), (183, .aload_n 0, 1), (184, .bipush 7, 2), (186, .newarray .int, 2), (188, .putfield 78, 3), (191, .aload_n 0, 1), (192, .bipush 20, 2), (194, .newarray .int, 2), (196, .putfield 81, 3), (199, .aload_n 0, 1), (200, .sipush 360, 3), (203, .newarray .int, 2), (205, .putfield 84, 3), (208, .aload_n 0, 1), (209, .sipush 360, 3), (212, .newarray .int, 2), (214, .putfield 87, 3), (217, .aload_n 0, 1), (218, .sipush 360, 3), (221, .newarray .int, 2), (223, .putfield 90, 3), (226, .aload_n 0, 1), (227, .sipush 360, 3), (230, .newarray .int, 2), (232, .putfield 93, 3), (235, .aload_n 0, 1), (236, .sipush 360, 3), (239, .newarray .int, 2), (241, .putfield 96, 3), (244, .aload_n 0, 1), (245, .sipush 360, 3), (248, .newarray .int, 2), (250, .putfield 99, 3), (253, .aload_n 0, 1), (254, .sipush 360, 3), (257, .newarray .int, 2), (259, .putfield 102, 3), (262, .aload_n 0, 1), (263, .sipush 360, 3), (266, .newarray .int, 2), (268, .putfield 105, 3), (271, .aload_n 0, 1), (272, .sipush 360, 3), (275, .newarray .int, 2), (277, .putfield 108, 3), (280, .aload_n 0, 1), (281, .sipush 360, 3), (284, .newarray .int, 2), (286, .putfield 111, 3), (289, .aload_n 0, 1), (290, .sipush 256, 3), (293, .newarray .int, 2), (295, .putfield 114, 3), (298, .aload_n 0, 1), (299, .sipush 2048, 3), (302, .newarray .int, 2), (304, .putfield 117, 3), (307, .aload_n 0, 1), (308, .iconst 4, 1), (309, .newarray .boolean, 2), (311, .putfield 120, 3), (314, .aload_n 0, 1), (315, .iconst 0, 1), (316, .invokevirtual 123, 3), (319, .return_, 1)]
set_option maxRecDepth 100000 in
theorem kX10_init : tX10_init.all (fun q => decide (decode cX10_init q.1 = .ok q.2)) = true := by decide +kernel
def tX10_thrown : List (Nat × Instr × Nat) := [(0, .aload_n 0, 1), (1, .getfield 127, 3), (4, .ireturn, 1)]
set_option maxRecDepth 100000 in
theorem kX10_thrown : tX10_thrown.all (fun q => decide (decode cX10_thrown q.1 = .ok q.2)) = true := by decide +kernel
def tX10_within : List (Nat × Instr × Nat) := [(0, .iload_n 0, 1), (1, .iload_n 1, 1), (2, .if_icmp .lt 12, 3), (5, .iload_n 0, 1), (6, .iload_n 2, 1), (7, .if_icmp .gt 7, 3), (10, .iconst 1, 1), (11, .goto 4, 3), (14, .iconst 0, 1), (15, .ireturn, 1)]
set_option maxRecDepth 100000 in
theorem kX10_within : tX10_within.all (fun q => decide (decode cX10_within q.1 = .ok q.2)) = true := by decide +kernel
def tX10_gcd : List (Nat × Instr × Nat) := [(0, .lload_n 0, 1), (1, .lstore 4, 2), (3, .lload_n 2, 1), (4, .lstore 6, 2), (6, .lload 6, 2), (8, .lconst 0, 1), (9, .lcmp, 1), (10, .ifCond .eq 21, 3), (13, .lload 4, 2), (15, .lload 6, 2), (17, .lrem, 1), (18, .lstore 8, 2), (20, .lload 6, 2), (22, .lstore 4, 2), (24, .lload 8, 2), (26, .lstore 6, 2), (28, .goto (-22), 3), (31, .lload 4, 2), (33, .lreturn, 1)]
set_option maxRecDepth 100000 in
theorem kX10_gcd : tX10_gcd.all (fun q => decide (decode cX10_gcd q.1 = .ok q.2)) = true := by decide +kernel
def tX10_feed : List (Nat × Instr × Nat) := [(0, .aload_n 0, 1), (1, .iconst 0, 1), (2, .putfield 127, 3), (5, .iconst 0, 1), (6, .istore 7, 2), (8, .iload 7, 2), (10, .bipush 24, 2), (12, .if_icmp .ge 108, 3), (15, .iload 7, 2), (17, .bipush 8, 2), (19, .if_icmp .ge 7, 3), (22, .lload_n 1, 1), (23, .goto 16, 3), (26, .iload 7, 2), (28, .bipush 16, 2), (30, .if_icmp .ge 7, 3), (33, .lload_n 3, 1), (34, .goto 5, 3), (37, .lload 5, 2), (39, .lstore 8, 2), (41, .lload 8, 2), (43, .bipush 56, 2), (45, .bipush 8, 2), (47, .iload 7, 2), (49, .bipush 7, 2), (51, .iand, 1), (52, .imul, 1), (53, .isub, 1), (54, .lushr, 1), (55, .ldc2_w 131, 3), (58, .land, 1), (59, .l2i, 1), (60, .istore 10, 2), (62, .aload_n 0, 1), (63, .getfield 133, 3), (66, .sipush 1000, 3), (69, .if_icmp .ge 45, 3), (72, .iload 10, 2), (74, .bipush 10, 2), (76, .if_icmp .eq 17, 3), (79, .iload 10, 2), (81, .bipush 32, 2), (83, .if_icmp .lt 31, 3), (86, .iload 10, 2), (88, .bipush 126, 2), (90, .if_icmp .gt 24, 3), (93, .aload_n 0, 1), (94, .getfield 7, 3), (97, .aload_n 0, 1), (98, .getfield 133, 3), (101, .iload 10, 2), (103, .iastore, 1), (104, .aload_n 0, 1), (105, .dup, 1), (106, .getfield 133, 3), (109, .iconst 1, 1), (110, .iadd, 1), (111, .putfield 133, 3), (114, .iinc 7 1, 3), (117, .goto (-109), 3), (120, .aload_n 0, 1), (121, .getfield 133, 3), (124, .ireturn, 1)]
set_option maxRecDepth 100000 in
theorem kX10_feed : tX10_feed.all (fun q => decide (decode cX10_feed q.1 = .ok q.2)) = true := by decide +kernel
def tX10_signAt : List (Nat × Instr × Nat) := [(0, .iload_n 1, 1), (1, .aload_n 0, 1), (2, .getfield 136, 3), (5, .if_icmp .ge 12, 3), (8, .aload_n 0, 1), (9, .getfield 7, 3), (12, .iload_n 1, 1), (13, .iaload, 1), (14, .goto 4, 3), (17, .iconst 0, 1), (18, .ireturn, 1)]
set_option maxRecDepth 100000 in
theorem kX10_signAt : tX10_signAt.all (fun q => decide (decode cX10_signAt q.1 = .ok q.2)) = true := by decide +kernel
def tX10_nextToken : List (Nat × Instr × Nat) := [(0, .aload_n 0, 1), (1, .getfield 139, 3), (4, .aload_n 0, 1), (5, .getfield 136, 3), (8, .if_icmp .ge 44, 3), (11, .aload_n 0, 1), (12, .getfield 7, 3), (15, .aload_n 0, 1), (16, .getfield 139, 3), (19, .iaload, 1), (20, .bipush 32, 2), (22, .if_icmp .eq 17, 3), (25, .aload_n 0, 1), (26, .getfield 7, 3), (29, .aload_n 0, 1), (30, .getfield 139, 3), (33, .iaload, 1), (34, .bipush 10, 2), (36, .if_icmp .ne 16, 3), (39, .aload_n 0, 1), (40, .dup, 1), (41, .getfield 139, 3), (44, .iconst 1, 1), (45, .iadd, 1), (46, .putfield 139, 3), (49, .goto (-49), 3), (52, .aload_n 0, 1), (53, .aload_n 0, 1), (54, .getfield 139, 3), (57, .putfield 142, 3), (60, .aload_n 0, 1), (61, .lconst 0, 1), (62, .putfield 145, 3), (65, .aload_n 0, 1), (66, .iconst 0, 1), (67, .putfield 149, 3), (70, .aload_n 0, 1), (71, .getfield 139, 3), (74, .aload_n 0, 1), (75, .getfield 136, 3), (78, .if_icmp .ne 9, 3), (81, .aload_n 0, 1), (82, .iconst 0, 1), (83, .putfield 152, 3), (86, .return_, 1), (87, .aload_n 0, 1), (88, .getfield 7, 3), (91, .aload_n 0, 1), (92, .getfield 139, 3), (95, .iaload, 1), (96, .istore_n 1, 1), (97, .iload_n 1, 1), (98, .bipush 97, 2), (100, .if_icmp .lt 112, 3), (103, .iload_n 1, 1), (104, .bipush 122, 2), (106, .if_icmp .gt 106, 3), (109, .aload_n 0, 1), (110, .aload_n 0, 1), (111, .getfield 139, 3), (114, .invokevirtual 155, 3), (117, .bipush 97, 2), (119, .if_icmp .lt 69, 3), (122, .aload_n 0, 1), (123, .aload_n 0, 1), (124, .getfield 139, 3), (127, .invokevirtual 155, 3), (130, .bipush 122, 2), (132, .if_icmp .gt 56, 3), (135, .aload_n 0, 1), (136, .getfield 139, 3), (139, .aload_n 0, 1), (140, .getfield 142, 3), (143, .isub, 1), (144, .bipush 8, 2), (146, .if_icmp .ge 29, 3), (149, .aload_n 0, 1), (150, .aload_n 0, 1), (151, .getfield 145, 3), (154, .ldc2_w 159, 3), (157, .lmul, 1), (158, .aload_n 0, 1), (159, .aload_n 0, 1), (160, .getfield 139, 3), (163, .invokevirtual 155, 3), (166, .i2l, 1), (167, .ladd, 1), (168, .ldc2_w 161, 3), (171, .lsub, 1), (172, .putfield 145, 3), (175, .aload_n 0, 1), (176, .dup, 1), (177, .getfield 139, 3), (180, .iconst 1, 1), (181, .iadd, 1), (182, .putfield 139, 3), (185, .goto (-76), 3), (188, .aload_n 0, 1), (189, .aload_n 0, 1), (190, .getfield 139, 3), (193, .aload_n 0, 1), (194, .getfield 142, 3), (197, .isub, 1), (198, .bipush 8, 2), (200, .if_icmp .le 7, 3), (203, .iconst 4, 1), (204, .goto 4, 3), (207, .iconst 1, 1), (208, .putfield 152, 3), (211, .return_, 1), (212, .iload_n 1, 1), (213, .bipush 48, 2), (215, .if_icmp .lt 107, 3), (218, .iload_n 1, 1), (219, .bipush 57, 2), (221, .if_icmp .gt 101, 3), (224, .aload_n 0, 1), (225, .aload_n 0, 1), (226, .getfield 139, 3), (229, .invokevirtual 155, 3), (232, .bipush 48, 2), (234, .if_icmp .lt 65, 3), (237, .aload_n 0, 1), (238, .aload_n 0, 1), (239, .getfield 139, 3), (242, .invokevirtual 155, 3), (245, .bipush 57, 2), (247, .if_icmp .gt 52, 3), (250, .aload_n 0, 1), (251, .getfield 139, 3), (254, .aload_n 0, 1), (255, .getfield 142, 3), (258, .isub, 1), (259, .iconst 4, 1), (260, .if_icmp .ge 26, 3), (263, .aload_n 0, 1), (264, .aload_n 0, 1), (265, .getfield 149, 3), (268, .bipush 10, 2), (270, .imul, 1), (271, .aload_n 0, 1), (272, .aload_n 0, 1), (273, .getfield 139, 3), (276, .invokevirtual 155, 3), (279, .iadd, 1), (280, .bipush 48, 2), (282, .isub, 1), (283, .putfield 149, 3), (286, .aload_n 0, 1), (287, .dup, 1), (288, .getfield 139, 3), (291, .iconst 1, 1), (292, .iadd, 1), (293, .putfield 139, 3), (296, .goto (-72), 3), (299, .aload_n 0, 1), (300, .aload_n 0, 1), (301, .getfield 139, 3), (304, .aload_n 0, 1), (305, .getfield 142, 3), (308, .isub, 1), (309, .iconst 4, 1), (310, .if_icmp .le 7, 3), (313, .iconst 4, 1), (314, .goto 4, 3), (317, .iconst 2, 1), (318, .putfield 152, 3), (321, .return_, 1), (322, .aload_n 0, 1), (323, .dup, 1), (324, .getfield 139, 3), (327, .iconst 1, 1), (328, .iadd, 1), (329, .putfield 139, 3), (332, .aload_n 0, 1), (333, .iload_n 1, 1), (334, .bipush 40, 2), (336, .if_icmp .lt 9, 3), (339, .iload_n 1, 1), (340, .bipush 43, 2), (342, .if_icmp .le 21, 3), (345, .iload_n 1, 1), (346, .bipush 45, 2), (348, .if_icmp .eq 15, 3), (351, .iload_n 1, 1), (352, .bipush 59, 2), (354, .if_icmp .lt 13, 3), (357, .iload_n 1, 1), (358, .bipush 61, 2), (360, .if_icmp .gt 7, 3), (363, .iconst 3, 1), (364, .goto 4, 3), (367, .iconst 4, 1), (368, .putfield 152, 3), (371, .return_, 1)]
set_option maxRecDepth 100000 in
theorem kX10_nextToken : tX10_nextToken.all (fun q => decide (decode cX10_nextToken q.1 = .ok q.2)) = true := by decide +kernel
def tX10_isWord : List (Nat × Instr × Nat) := [(0, .aload_n 0, 1), (1, .getfield 152, 3), (4, .iconst 1, 1), (5, .if_icmp .ne 16, 3), (8, .aload_n 0, 1), (9, .getfield 145, 3), (12, .lload_n 1, 1), (13, .lcmp, 1), (14, .ifCond .ne 7, 3), (17, .iconst 1, 1), (18, .goto 4, 3), (21, .iconst 0, 1), (22, .ireturn, 1)]
set_option maxRecDepth 100000 in
theorem kX10_isWord : tX10_isWord.all (fun q => decide (decode cX10_isWord q.1 = .ok q.2)) = true := by decide +kernel
def tX10_isSign : List (Nat × Instr × Nat) := [(0, .aload_n 0, 1), (1, .getfield 152, 3), (4, .iconst 3, 1), (5, .if_icmp .ne 20, 3), (8, .aload_n 0, 1), (9, .getfield 7, 3), (12, .aload_n 0, 1), (13, .getfield 142, 3), (16, .iaload, 1), (17, .iload_n 1, 1), (18, .if_icmp .ne 7, 3), (21, .iconst 1, 1), (22, .goto 4, 3), (25, .iconst 0, 1), (26, .ireturn, 1)]
set_option maxRecDepth 100000 in
theorem kX10_isSign : tX10_isSign.all (fun q => decide (decode cX10_isSign q.1 = .ok q.2)) = true := by decide +kernel
def tX10_fails : List (Nat × Instr × Nat) := [(0, .aload_n 0, 1), (1, .iload_n 1, 1), (2, .bipush 16, 2), (4, .aload_n 0, 1), (5, .getfield 142, 3), (8, .imul, 1), (9, .iadd, 1), (10, .putfield 163, 3), (13, .iconst 0, 1), (14, .ireturn, 1)]
set_option maxRecDepth 100000 in
theorem kX10_fails : tX10_fails.all (fun q => decide (decode cX10_fails q.1 = .ok q.2)) = true := by decide +kernel
def tX10_starts0 : List (Nat × Instr × Nat) := [(0, .aload_n 0, 1), (1, .getfield 13, 3), (4, .bipush 10, 2), (6, .iload_n 1, 1), (7, .imul, 1), (8, .iconst 0, 1), (9, .iadd, 1), (10, .bipush 40, 2), (12, .iastore, 1), (13, .aload_n 0, 1), (14, .getfield 13, 3), (17, .bipush 10, 2), (19, .iload_n 1, 1), (20, .imul, 1), (21, .iconst 1, 1), (22, .iadd, 1), (23, .bipush 10, 2), (25, .iastore, 1), (26, .aload_n 0, 1), (27, .getfield 13, 3), (30, .bipush 10, 2), (32, .iload_n 1, 1), (33, .imul, 1), (34, .iconst 2, 1), (35, .iadd, 1), (36, .iconst 1, 1), (37, .iastore, 1), (38, .aload_n 0, 1), (39, .getfield 13, 3), (42, .bipush 10, 2), (44, .iload_n 1, 1), (45, .imul, 1), (46, .iconst 3, 1), (47, .iadd, 1), (48, .iconst 1, 1), (49, .iastore, 1), (50, .aload_n 0, 1), (51, .getfield 13, 3), (54, .bipush 10, 2), (56, .iload_n 1, 1), (57, .imul, 1), (58, .iconst 4, 1), (59, .iadd, 1), (60, .iconst 2, 1), (61, .iastore, 1), (62, .aload_n 0, 1), (63, .getfield 13, 3), (66, .bipush 10, 2), (68, .iload_n 1, 1), (69, .imul, 1), (70, .iconst 5, 1), (71, .iadd, 1), (72, .bipush 50, 2), (74, .iastore, 1), (75, .aload_n 0, 1), (76, .getfield 13, 3), (79, .bipush 10, 2), (81, .iload_n 1, 1), (82, .imul, 1), (83, .bipush 6, 2), (85, .iadd, 1), (86, .iconst 0, 1), (87, .iastore, 1), (88, .aload_n 0, 1), (89, .getfield 13, 3), (92, .bipush 10, 2), (94, .iload_n 1, 1), (95, .imul, 1), (96, .bipush 7, 2), (98, .iadd, 1), (99, .iconst 0, 1), (100, .iastore, 1), (101, .aload_n 0, 1), (102, .getfield 13, 3), (105, .bipush 10, 2), (107, .iload_n 1, 1), (108, .imul, 1), (109, .bipush 8, 2), (111, .iadd, 1), (112, .iconst (-1), 1), (113, .iastore, 1), (114, .aload_n 0, 1), (115, .getfield 13, 3), (118, .bipush 10, 2), (120, .iload_n 1, 1), (121, .imul, 1), (122, .bipush 9, 2), (124, .iadd, 1), (125, .iconst 0, 1), (126, .iastore, 1), (127, .return_, 1)]
set_option maxRecDepth 100000 in
theorem kX10_starts0 : tX10_starts0.all (fun q => decide (decode cX10_starts0 q.1 = .ok q.2)) = true := by decide +kernel
def tX10_puts : List (Nat × Instr × Nat) := [(0, .aload_n 0, 1), (1, .getfield 22, 3), (4, .aload_n 0, 1), (5, .getfield 166, 3), (8, .iload_n 1, 1), (9, .iastore, 1), (10, .aload_n 0, 1), (11, .dup, 1), (12, .getfield 166, 3), (15, .iconst 1, 1), (16, .iadd, 1), (17, .putfield 166, 3), (20, .return_, 1)]
set_option maxRecDepth 100000 in
theorem kX10_puts : tX10_puts.all (fun q => decide (decode cX10_puts q.1 = .ok q.2)) = true := by decide +kernel
def tX10_fact : List (Nat × Instr × Nat) := [(0, .aload_n 0, 1), (1, .getfield 152, 3), (4, .iconst 1, 1), (5, .if_icmp .eq 5, 3), (8, .iconst 0, 1), (9, .ireturn, 1), (10, .aload_n 0, 1), (11, .getfield 145, 3), (14, .ldc2_w 169, 3), (17, .lcmp, 1), (18, .ifCond .ne 5, 3), (21, .iconst 1, 1), (22, .ireturn, 1), (23, .aload_n 0, 1), (24, .getfield 145, 3), (27, .ldc2_w 171, 3), (30, .lcmp, 1), (31, .ifCond .ne 5, 3), (34, .iconst 2, 1), (35, .ireturn, 1), (36, .aload_n 0, 1), (37, .getfield 145, 3), (40, .ldc2_w 173, 3), (43, .lcmp, 1), (44, .ifCond .ne 5, 3), (47, .iconst 3, 1), (48, .ireturn, 1), (49, .aload_n 0, 1), (50, .getfield 145, 3), (53, .ldc2_w 175, 3), (56, .lcmp, 1), (57, .ifCond .ne 5, 3), (60, .iconst 4, 1), (61, .ireturn, 1), (62, .aload_n 0, 1), (63, .getfield 145, 3), (66, .ldc2_w 177, 3), (69, .lcmp, 1), (70, .ifCond .ne 5, 3), (73, .iconst 5, 1), (74, .ireturn, 1), (75, .aload_n 0, 1), (76, .getfield 145, 3), (79, .ldc2_w 179, 3), (82, .lcmp, 1), (83, .ifCond .ne 6, 3), (86, .bipush 6, 2), (88, .ireturn, 1), (89, .iconst 0, 1), (90, .ireturn, 1)]
set_option maxRecDepth 100000 in
theorem kX10_fact : tX10_fact.all (fun q => decide (decode cX10_fact q.1 = .ok q.2)) = true := by decide +kernel
def tX10_reads : List (Nat × Instr × Nat) := [(0, .iconst 0, 1), (1, .istore_n 1, 1), (2, .iconst 1, 1), (3, .istore_n 2, 1), (4, .aload_n 0, 1), (5, .getfield 50, 3), (8, .iconst 0, 1), (9, .iconst 0, 1), (10, .bastore, 1), (11, .iload_n 2, 1), (12, .ifCond .eq 167, 3), (15, .aload_n 0, 1), (16, .invokevirtual 181, 3), (19, .istore_n 3, 1), (20, .aload_n 0, 1), (21, .ldc2_w 185, 3), (24, .invokevirtual 187, 3), (27, .istore 4, 2), (29, .aload_n 0, 1), (30, .bipush 40, 2), (32, .invokevirtual 191, 3), (35, .istore 5, 2), (37, .iload_n 3, 1), (38, .ifCond .ne 27, 3), (41, .iload 4, 2), (43, .ifCond .ne 22, 3), (46, .iload 5, 2), (48, .ifCond .ne 17, 3), (51, .aload_n 0, 1), (52, .getfield 152, 3), (55, .iconst 2, 1), (56, .if_icmp .eq 9, 3), (59, .aload_n 0, 1), (60, .iconst 1, 1), (61, .invokevirtual 195, 3), (64, .ireturn, 1), (65, .iload_n 1, 1), (66, .iconst 5, 1), (67, .if_icmp .ne 9, 3), (70, .aload_n 0, 1), (71, .iconst 5, 1), (72, .invokevirtual 195, 3), (75, .ireturn, 1), (76, .iload 4, 2), (78, .ifCond .ne 8, 3), (81, .iload 5, 2), (83, .ifCond .eq 48, 3), (86, .aload_n 0, 1), (87, .iload 4, 2), (89, .ifCond .eq 8, 3), (92, .bipush 30, 2), (94, .goto 5, 3), (97, .bipush 28, 2), (99, .invokevirtual 198, 3), (102, .iinc 1 1, 3), (105, .aload_n 0, 1), (106, .getfield 47, 3), (109, .iload_n 1, 1), (110, .iload 4, 2), (112, .ifCond .eq 7, 3), (115, .iconst 1, 1), (116, .goto 4, 3), (119, .iconst 2, 1), (120, .iastore, 1), (121, .aload_n 0, 1), (122, .getfield 50, 3), (125, .iload_n 1, 1), (126, .iconst 0, 1), (127, .bastore, 1), (128, .goto 44, 3), (131, .aload_n 0, 1), (132, .iload_n 3, 1), (133, .ifCond .le 7, 3), (136, .iload_n 3, 1), (137, .goto 10, 3), (140, .bipush 100, 2), (142, .aload_n 0, 1), (143, .getfield 149, 3), (146, .iadd, 1), (147, .invokevirtual 198, 3), (150, .iconst 0, 1), (151, .istore_n 2, 1), (152, .iload_n 1, 1), (153, .ifCond .le 19, 3), (156, .aload_n 0, 1), (157, .getfield 47, 3), (160, .iload_n 1, 1), (161, .iaload, 1), (162, .iconst 1, 1), (163, .if_icmp .ne 9, 3), (166, .iinc 1 (-1), 3), (169, .goto (-17), 3), (172, .aload_n 0, 1), (173, .invokevirtual 201, 3), (176, .goto (-165), 3), (179, .aload_n 0, 1), (180, .bipush 43, 2), (182, .invokevirtual 191, 3), (185, .ifCond .ne 21, 3), (188, .aload_n 0, 1), (189, .bipush 45, 2), (191, .invokevirtual 191, 3), (194, .ifCond .ne 12, 3), (197, .aload_n 0, 1), (198, .bipush 42, 2), (200, .invokevirtual 191, 3), (203, .ifCond .eq 42, 3), (206, .aload_n 0, 1), (207, .aload_n 0, 1), (208, .bipush 43, 2), (210, .invokevirtual 191, 3), (213, .ifCond .eq 8, 3), (216, .bipush 20, 2), (218, .goto 19, 3), (221, .aload_n 0, 1), (222, .bipush 45, 2), (224, .invokevirtual 191, 3), (227, .ifCond .eq 8, 3), (230, .bipush 21, 2), (232, .goto 5, 3), (235, .bipush 22, 2), (237, .invokevirtual 198, 3), (240, .iconst 1, 1), (241, .istore_n 2, 1), (242, .goto 182, 3), (245, .aload_n 0, 1), (246, .bipush 60, 2), (248, .invokevirtual 191, 3), (251, .ifCond .ne 12, 3), (254, .aload_n 0, 1), (255, .bipush 61, 2), (257, .invokevirtual 191, 3), (260, .ifCond .eq 44, 3), (263, .aload_n 0, 1), (264, .getfield 50, 3), (267, .iload_n 1, 1), (268, .baload, 1), (269, .ifCond .ne 35, 3), (272, .aload_n 0, 1), (273, .aload_n 0, 1), (274, .bipush 60, 2), (276, .invokevirtual 191, 3), (279, .ifCond .eq 8, 3), (282, .bipush 24, 2), (284, .goto 5, 3), (287, .bipush 25, 2), (289, .invokevirtual 198, 3), (292, .aload_n 0, 1), (293, .getfield 50, 3), (296, .iload_n 1, 1), (297, .iconst 1, 1), (298, .bastore, 1), (299, .iconst 1, 1), (300, .istore_n 2, 1), (301, .goto 123, 3), (304, .aload_n 0, 1), (305, .ldc2_w 204, 3), (308, .invokevirtual 187, 3), (311, .ifCond .ne 13, 3), (314, .aload_n 0, 1), (315, .ldc2_w 206, 3), (318, .invokevirtual 187, 3), (321, .ifCond .eq 36, 3), (324, .aload_n 0, 1), (325, .aload_n 0, 1), (326, .ldc2_w 204, 3), (329, .invokevirtual 187, 3), (332, .ifCond .eq 8, 3), (335, .bipush 26, 2), (337, .goto 5, 3), (340, .bipush 27, 2), (342, .invokevirtual 198, 3), (345, .aload_n 0, 1), (346, .getfield 50, 3), (349, .iload_n 1, 1), (350, .iconst 0, 1), (351, .bastore, 1), (352, .iconst 1, 1), (353, .istore_n 2, 1), (354, .goto 70, 3), (357, .aload_n 0, 1), (358, .bipush 41, 2), (360, .invokevirtual 191, 3), (363, .ifCond .eq 36, 3), (366, .iload_n 1, 1), (367, .ifCond .le 32, 3), (370, .aload_n 0, 1), (371, .bipush 29, 2), (373, .invokevirtual 198, 3), (376, .iinc 1 (-1), 3), (379, .iload_n 1, 1), (380, .ifCond .le 44, 3), (383, .aload_n 0, 1), (384, .getfield 47, 3), (387, .iload_n 1, 1), (388, .iaload, 1), (389, .iconst 1, 1), (390, .if_icmp .ne 34, 3), (393, .iinc 1 (-1), 3), (396, .goto (-17), 3), (399, .iload_n 1, 1), (400, .ifCond .ne 18, 3), (403, .aload_n 0, 1), (404, .bipush 59, 2), (406, .invokevirtual 191, 3), (409, .ifCond .eq 9, 3), (412, .aload_n 0, 1), (413, .invokevirtual 201, 3), (416, .iconst 1, 1), (417, .ireturn, 1), (418, .aload_n 0, 1), (419, .iconst 1, 1), (420, .invokevirtual 195, 3), (423, .ireturn, 1), (424, .aload_n 0, 1), (425, .invokevirtual 201, 3), (428, .goto (-417), 3)]
set_option maxRecDepth 100000 in
theorem kX10_reads : tX10_reads.all (fun q => decide (decode cX10_reads q.1 = .ok q.2)) = true := by decide +kernel
def tX10_opens : List (Nat × Instr × Nat) := [(0, .aload_n 0, 1), (1, .getfield 57, 3), (4, .iload_n 1, 1), (5, .iconst 0, 1), (6, .iastore, 1), (7, .aload_n 0, 1), (8, .getfield 63, 3), (11, .iload_n 1, 1), (12, .iconst 0, 1), (13, .iastore, 1), (14, .aload_n 0, 1), (15, .getfield 66, 3), (18, .iload_n 1, 1), (19, .iconst 0, 1), (20, .iastore, 1), (21, .aload_n 0, 1), (22, .getfield 69, 3), (25, .iload_n 1, 1), (26, .bipush 20, 2), (28, .iastore, 1), (29, .aload_n 0, 1), (30, .getfield 75, 3), (33, .iload_n 1, 1), (34, .iconst 0, 1), (35, .iastore, 1), (36, .return_, 1)]
set_option maxRecDepth 100000 in
theorem kX10_opens : tX10_opens.all (fun q => decide (decode cX10_opens q.1 = .ok q.2)) = true := by decide +kernel
def tX10_sums : List (Nat × Instr × Nat) := [(0, .aload_n 0, 1), (1, .getfield 66, 3), (4, .iload_n 1, 1), (5, .aload_n 0, 1), (6, .getfield 69, 3), (9, .iload_n 1, 1), (10, .iaload, 1), (11, .bipush 21, 2), (13, .if_icmp .ne 19, 3), (16, .aload_n 0, 1), (17, .getfield 66, 3), (20, .iload_n 1, 1), (21, .iaload, 1), (22, .aload_n 0, 1), (23, .getfield 72, 3), (26, .iload_n 1, 1), (27, .iaload, 1), (28, .isub, 1), (29, .goto 16, 3), (32, .aload_n 0, 1), (33, .getfield 66, 3), (36, .iload_n 1, 1), (37, .iaload, 1), (38, .aload_n 0, 1), (39, .getfield 72, 3), (42, .iload_n 1, 1), (43, .iaload, 1), (44, .iadd, 1), (45, .iastore, 1), (46, .aload_n 0, 1), (47, .getfield 75, 3), (50, .iload_n 1, 1), (51, .iconst 0, 1), (52, .iastore, 1), (53, .return_, 1)]
set_option maxRecDepth 100000 in
theorem kX10_sums : tX10_sums.all (fun q => decide (decode cX10_sums q.1 = .ok q.2)) = true := by decide +kernel
def tX10_tests : List (Nat × Instr × Nat) := [(0, .aload_n 0, 1), (1, .iload_n 1, 1), (2, .invokevirtual 208, 3), (5, .aload_n 0, 1), (6, .getfield 66, 3), (9, .iload_n 1, 1), (10, .iaload, 1), (11, .istore_n 2, 1), (12, .aload_n 0, 1), (13, .getfield 63, 3), (16, .iload_n 1, 1), (17, .iaload, 1), (18, .bipush 24, 2), (20, .if_icmp .ne 24, 3), (23, .aload_n 0, 1), (24, .getfield 60, 3), (27, .iload_n 1, 1), (28, .iaload, 1), (29, .aload_n 0, 1), (30, .getfield 66, 3), (33, .iload_n 1, 1), (34, .iaload, 1), (35, .if_icmp .ge 7, 3), (38, .iconst 1, 1), (39, .goto 4, 3), (42, .iconst 0, 1), (43, .istore_n 2, 1), (44, .aload_n 0, 1), (45, .getfield 63, 3), (48, .iload_n 1, 1), (49, .iaload, 1), (50, .bipush 25, 2), (52, .if_icmp .ne 24, 3), (55, .aload_n 0, 1), (56, .getfield 60, 3), (59, .iload_n 1, 1), (60, .iaload, 1), (61, .aload_n 0, 1), (62, .getfield 66, 3), (65, .iload_n 1, 1), (66, .iaload, 1), (67, .if_icmp .ne 7, 3), (70, .iconst 1, 1), (71, .goto 4, 3), (74, .iconst 0, 1), (75, .istore_n 2, 1), (76, .aload_n 0, 1), (77, .getfield 57, 3), (80, .iload_n 1, 1), (81, .iaload, 1), (82, .bipush 26, 2), (84, .if_icmp .ne 22, 3), (87, .aload_n 0, 1), (88, .getfield 54, 3), (91, .iload_n 1, 1), (92, .iaload, 1), (93, .ifCond .eq 11, 3), (96, .iload_n 2, 1), (97, .ifCond .eq 7, 3), (100, .iconst 1, 1), (101, .goto 4, 3), (104, .iconst 0, 1), (105, .istore_n 2, 1), (106, .aload_n 0, 1), (107, .getfield 57, 3), (110, .iload_n 1, 1), (111, .iaload, 1), (112, .bipush 27, 2), (114, .if_icmp .ne 22, 3), (117, .aload_n 0, 1), (118, .getfield 54, 3), (121, .iload_n 1, 1), (122, .iaload, 1), (123, .ifCond .ne 7, 3), (126, .iload_n 2, 1), (127, .ifCond .eq 7, 3), (130, .iconst 1, 1), (131, .goto 4, 3), (134, .iconst 0, 1), (135, .istore_n 2, 1), (136, .aload_n 0, 1), (137, .getfield 54, 3), (140, .iload_n 1, 1), (141, .iload_n 2, 1), (142, .iastore, 1), (143, .aload_n 0, 1), (144, .getfield 63, 3), (147, .iload_n 1, 1), (148, .iconst 0, 1), (149, .iastore, 1), (150, .aload_n 0, 1), (151, .getfield 66, 3), (154, .iload_n 1, 1), (155, .iconst 0, 1), (156, .iastore, 1), (157, .aload_n 0, 1), (158, .getfield 69, 3), (161, .iload_n 1, 1), (162, .bipush 20, 2), (164, .iastore, 1), (165, .return_, 1)]
set_option maxRecDepth 100000 in
theorem kX10_tests : tX10_tests.all (fun q => decide (decode cX10_tests q.1 = .ok q.2)) = true := by decide +kernel
def tX10_worked : List (Nat × Instr × Nat) := [(0, .iconst 0, 1), (1, .istore_n 2, 1), (2, .aload_n 0, 1), (3, .iconst 0, 1), (4, .invokevirtual 211, 3), (7, .aload_n 0, 1), (8, .getfield 16, 3), (11, .iload_n 1, 1), (12, .iaload, 1), (13, .istore_n 3, 1), (14, .iload_n 3, 1), (15, .aload_n 0, 1), (16, .getfield 19, 3), (19, .iload_n 1, 1), (20, .iaload, 1), (21, .if_icmp .ge 314, 3), (24, .aload_n 0, 1), (25, .getfield 22, 3), (28, .iload_n 3, 1), (29, .iaload, 1), (30, .istore 4, 2), (32, .iload 4, 2), (34, .bipush 28, 2), (36, .if_icmp .eq 10, 3), (39, .iload 4, 2), (41, .bipush 30, 2), (43, .if_icmp .ne 32, 3), (46, .iinc 2 1, 3), (49, .aload_n 0, 1), (50, .getfield 78, 3), (53, .iload_n 2, 1), (54, .iload 4, 2), (56, .bipush 30, 2), (58, .if_icmp .ne 7, 3), (61, .iconst 1, 1), (62, .goto 4, 3), (65, .iconst 0, 1), (66, .iastore, 1), (67, .aload_n 0, 1), (68, .iload_n 2, 1), (69, .invokevirtual 211, 3), (72, .goto 257, 3), (75, .iload 4, 2), (77, .bipush 20, 2), (79, .if_icmp .eq 10, 3), (82, .iload 4, 2), (84, .bipush 21, 2), (86, .if_icmp .ne 19, 3), (89, .aload_n 0, 1), (90, .iload_n 2, 1), (91, .invokevirtual 208, 3), (94, .aload_n 0, 1), (95, .getfield 69, 3), (98, .iload_n 2, 1), (99, .iload 4, 2), (101, .iastore, 1), (102, .goto 227, 3), (105, .iload 4, 2), (107, .bipush 22, 2), (109, .if_icmp .ne 14, 3), (112, .aload_n 0, 1), (113, .getfield 75, 3), (116, .iload_n 2, 1), (117, .iload 4, 2), (119, .iastore, 1), (120, .goto 209, 3), (123, .iload 4, 2), (125, .bipush 24, 2), (127, .if_icmp .eq 10, 3), (130, .iload 4, 2), (132, .bipush 25, 2), (134, .if_icmp .ne 46, 3), (137, .aload_n 0, 1), (138, .iload_n 2, 1), (139, .invokevirtual 208, 3), (142, .aload_n 0, 1), (143, .getfield 60, 3), (146, .iload_n 2, 1), (147, .aload_n 0, 1), (148, .getfield 66, 3), (151, .iload_n 2, 1), (152, .iaload, 1), (153, .iastore, 1), (154, .aload_n 0, 1), (155, .getfield 63, 3), (158, .iload_n 2, 1), (159, .iload 4, 2), (161, .iastore, 1), (162, .aload_n 0, 1), (163, .getfield 66, 3), (166, .iload_n 2, 1), (167, .iconst 0, 1), (168, .iastore, 1), (169, .aload_n 0, 1), (170, .getfield 69, 3), (173, .iload_n 2, 1), (174, .bipush 20, 2), (176, .iastore, 1), (177, .goto 152, 3), (180, .iload 4, 2), (182, .bipush 26, 2), (184, .if_icmp .eq 10, 3), (187, .iload 4, 2), (189, .bipush 27, 2), (191, .if_icmp .ne 19, 3), (194, .aload_n 0, 1), (195, .iload_n 2, 1), (196, .invokevirtual 214, 3), (199, .aload_n 0, 1), (200, .getfield 57, 3), (203, .iload_n 2, 1), (204, .iload 4, 2), (206, .iastore, 1), (207, .goto 122, 3), (210, .iload 4, 2), (212, .bipush 100, 2), (214, .if_icmp .lt 11, 3), (217, .iload 4, 2), (219, .bipush 100, 2), (221, .isub, 1), (222, .goto 21, 3), (225, .iload 4, 2), (227, .bipush 20, 2), (229, .if_icmp .ge 13, 3), (232, .aload_n 0, 1), (233, .getfield 81, 3), (236, .iload 4, 2), (238, .iaload, 1), (239, .goto 4, 3), (242, .iconst 0, 1), (243, .istore 5, 2), (245, .iload 4, 2), (247, .bipush 29, 2), (249, .if_icmp .ne 19, 3), (252, .aload_n 0, 1), (253, .iload_n 2, 1), (254, .invokevirtual 214, 3), (257, .aload_n 0, 1), (258, .getfield 54, 3), (261, .iload_n 2, 1), (262, .iaload, 1), (263, .istore 5, 2), (265, .iinc 2 (-1), 3), (268, .iload_n 2, 1), (269, .ifCond .le 31, 3), (272, .aload_n 0, 1), (273, .getfield 78, 3), (276, .iload_n 2, 1), (277, .iaload, 1), (278, .iconst 1, 1), (279, .if_icmp .ne 21, 3), (282, .iload 5, 2), (284, .ifCond .ne 7, 3), (287, .iconst 1, 1), (288, .goto 4, 3), (291, .iconst 0, 1), (292, .istore 5, 2), (294, .iinc 2 (-1), 3), (297, .goto (-29), 3), (300, .aload_n 0, 1), (301, .getfield 72, 3), (304, .iload_n 2, 1), (305, .aload_n 0, 1), (306, .getfield 75, 3), (309, .iload_n 2, 1), (310, .iaload, 1), (311, .ifCond .ne 8, 3), (314, .iload 5, 2), (316, .goto 12, 3), (319, .aload_n 0, 1), (320, .getfield 72, 3), (323, .iload_n 2, 1), (324, .iaload, 1), (325, .iload 5, 2), (327, .imul, 1), (328, .iastore, 1), (329, .iinc 3 1, 3), (332, .goto (-318), 3), (335, .aload_n 0, 1), (336, .iconst 0, 1), (337, .invokevirtual 214, 3), (340, .aload_n 0, 1), (341, .getfield 54, 3), (344, .iconst 0, 1), (345, .iaload, 1), (346, .ireturn, 1)]
set_option maxRecDepth 100000 in
theorem kX10_worked : tX10_worked.all (fun q => decide (decode cX10_worked q.1 = .ok q.2)) = true := by decide +kernel
def tX10_isKept : List (Nat × Instr × Nat) := [(0, .aload_n 0, 1), (1, .getfield 152, 3), (4, .iconst 1, 1), (5, .if_icmp .eq 5, 3), (8, .iconst 1, 1), (9, .ireturn, 1), (10, .aload_n 0, 1), (11, .getfield 145, 3), (14, .ldc2_w 217, 3), (17, .lcmp, 1), (18, .ifCond .eq 278, 3), (21, .aload_n 0, 1), (22, .getfield 145, 3), (25, .ldc2_w 219, 3), (28, .lcmp, 1), (29, .ifCond .eq 267, 3), (32, .aload_n 0, 1), (33, .getfield 145, 3), (36, .ldc2_w 221, 3), (39, .lcmp, 1), (40, .ifCond .eq 256, 3), (43, .aload_n 0, 1), (44, .getfield 145, 3), (47, .ldc2_w 223, 3), (50, .lcmp, 1), (51, .ifCond .eq 245, 3), (54, .aload_n 0, 1), (55, .getfield 145, 3), (58, .ldc2_w 225, 3), (61, .lcmp, 1), (62, .ifCond .eq 234, 3), (65, .aload_n 0, 1), (66, .getfield 145, 3), (69, .ldc2_w 227, 3), (72, .lcmp, 1), (73, .ifCond .eq 223, 3), (76, .aload_n 0, 1), (77, .getfield 145, 3), (80, .ldc2_w 229, 3), (83, .lcmp, 1), (84, .ifCond .eq 212, 3), (87, .aload_n 0, 1), (88, .getfield 145, 3), (91, .ldc2_w 231, 3), (94, .lcmp, 1), (95, .ifCond .eq 201, 3), (98, .aload_n 0, 1), (99, .getfield 145, 3), (102, .ldc2_w 233, 3), (105, .lcmp, 1), (106, .ifCond .eq 190, 3), (109, .aload_n 0, 1), (110, .getfield 145, 3), (113, .ldc2_w 235, 3), (116, .lcmp, 1), (117, .ifCond .eq 179, 3), (120, .aload_n 0, 1), (121, .getfield 145, 3), (124, .ldc2_w 237, 3), (127, .lcmp, 1), (128, .ifCond .eq 168, 3), (131, .aload_n 0, 1), (132, .getfield 145, 3), (135, .ldc2_w 169, 3), (138, .lcmp, 1), (139, .ifCond .eq 157, 3), (142, .aload_n 0, 1), (143, .getfield 145, 3), (146, .ldc2_w 171, 3), (149, .lcmp, 1), (150, .ifCond .eq 146, 3), (153, .aload_n 0, 1), (154, .getfield 145, 3), (157, .ldc2_w 173, 3), (160, .lcmp, 1), (161, .ifCond .eq 135, 3), (164, .aload_n 0, 1), (165, .getfield 145, 3), (168, .ldc2_w 175, 3), (171, .lcmp, 1), (172, .ifCond .eq 124, 3), (175, .aload_n 0, 1), (176, .getfield 145, 3), (179, .ldc2_w 177, 3), (182, .lcmp, 1), (183, .ifCond .eq 113, 3), (186, .aload_n 0, 1), (187, .getfield 145, 3), (190, .ldc2_w 179, 3), (193, .lcmp, 1), (194, .ifCond .eq 102, 3), (197, .aload_n 0, 1), (198, .getfield 145, 3), (201, .ldc2_w 239, 3), (204, .lcmp, 1), (205, .ifCond .eq 91, 3), (208, .aload_n 0, 1), (209, .getfield 145, 3), (212, .ldc2_w 241, 3), (215, .lcmp, 1), (216, .ifCond .eq 80, 3), (219, .aload_n 0, 1), (220, .getfield 145, 3), (223, .ldc2_w 243, 3), (226, .lcmp, 1), (227, .ifCond .eq 69, 3), (230, .aload_n 0, 1), (231, .getfield 145, 3), (234, .ldc2_w 245, 3), (237, .lcmp, 1), (238, .ifCond .eq 58, 3), (241, .aload_n 0, 1), (242, .getfield 145, 3), (245, .ldc2_w 247, 3), (248, .lcmp, 1), (249, .ifCond .eq 47, 3), (252, .aload_n 0, 1), (253, .getfield 145, 3), (256, .ldc2_w 249, 3), (259, .lcmp, 1), (260, .ifCond .eq 36, 3), (263, .aload_n 0, 1), (264, .getfield 145, 3), (267, .ldc2_w 185, 3), (270, .lcmp, 1), (271, .ifCond .eq 25, 3), (274, .aload_n 0, 1), (275, .getfield 145, 3), (278, .ldc2_w 204, 3), (281, .lcmp, 1), (282, .ifCond .eq 14, 3), (285, .aload_n 0, 1), (286, .getfield 145, 3), (289, .ldc2_w 206, 3), (292, .lcmp, 1), (293, .ifCond .ne 7, 3), (296, .iconst 1, 1), (297, .goto 4, 3), (300, .iconst 0, 1), (301, .ireturn, 1)]
set_option maxRecDepth 100000 in
theorem kX10_isKept : tX10_isKept.all (fun q => decide (decode cX10_isKept q.1 = .ok q.2)) = true := by decide +kernel
def tX10_needsNumber : List (Nat × Instr × Nat) := [(0, .aload_n 0, 1), (1, .getfield 152, 3), (4, .iconst 2, 1), (5, .if_icmp .eq 9, 3), (8, .aload_n 0, 1), (9, .iconst 1, 1), (10, .invokevirtual 195, 3), (13, .ireturn, 1), (14, .aload_n 0, 1), (15, .getfield 149, 3), (18, .iload_n 1, 1), (19, .iload_n 2, 1), (20, .invokestatic 251, 3), (23, .ifCond .ne 9, 3), (26, .aload_n 0, 1), (27, .iconst 4, 1), (28, .invokevirtual 195, 3), (31, .ireturn, 1), (32, .aload_n 0, 1), (33, .aload_n 0, 1), (34, .getfield 149, 3), (37, .putfield 255, 3), (40, .aload_n 0, 1), (41, .invokevirtual 201, 3), (44, .iconst 1, 1), (45, .ireturn, 1)]
set_option maxRecDepth 100000 in
theorem kX10_needsNumber : tX10_needsNumber.all (fun q => decide (decode cX10_needsNumber q.1 = .ok q.2)) = true := by decide +kernel
def tX10_needsWord : List (Nat × Instr × Nat) := [(0, .aload_n 0, 1), (1, .lload_n 1, 1), (2, .invokevirtual 187, 3), (5, .ifCond .ne 9, 3), (8, .aload_n 0, 1), (9, .iconst 1, 1), (10, .invokevirtual 195, 3), (13, .ireturn, 1), (14, .aload_n 0, 1), (15, .invokevirtual 201, 3), (18, .iconst 1, 1), (19, .ireturn, 1)]
set_option maxRecDepth 100000 in
theorem kX10_needsWord : tX10_needsWord.all (fun q => decide (decode cX10_needsWord q.1 = .ok q.2)) = true := by decide +kernel
def tX10_ends : List (Nat × Instr × Nat) := [(0, .aload_n 0, 1), (1, .bipush 59, 2), (3, .invokevirtual 191, 3), (6, .ifCond .ne 9, 3), (9, .aload_n 0, 1), (10, .iconst 1, 1), (11, .invokevirtual 195, 3), (14, .ireturn, 1), (15, .aload_n 0, 1), (16, .invokevirtual 201, 3), (19, .iconst 1, 1), (20, .ireturn, 1)]
set_option maxRecDepth 100000 in
theorem kX10_ends : tX10_ends.all (fun q => decide (decode cX10_ends q.1 = .ok q.2)) = true := by decide +kernel
def tX10_readsOne : List (Nat × Instr × Nat) := [(0, .aload_n 0, 1), (1, .getfield 258, 3), (4, .iload_n 1, 1), (5, .ishr, 1), (6, .iconst 1, 1), (7, .iand, 1), (8, .iconst 1, 1), (9, .if_icmp .ne 9, 3), (12, .aload_n 0, 1), (13, .iconst 3, 1), (14, .invokevirtual 195, 3), (17, .ireturn, 1), (18, .aload_n 0, 1), (19, .dup, 1), (20, .getfield 258, 3), (23, .iconst 1, 1), (24, .iload_n 1, 1), (25, .ishl, 1), (26, .ior, 1), (27, .putfield 258, 3), (30, .aload_n 0, 1), (31, .invokevirtual 201, 3), (34, .aload_n 0, 1), (35, .iload_n 2, 1), (36, .iload_n 3, 1), (37, .invokevirtual 261, 3), (40, .ifCond .ne 5, 3), (43, .iconst 0, 1), (44, .ireturn, 1), (45, .aload_n 0, 1), (46, .getfield 13, 3), (49, .bipush 10, 2), (51, .iload_n 1, 1), (52, .iadd, 1), (53, .aload_n 0, 1), (54, .getfield 255, 3), (57, .iastore, 1), (58, .aload_n 0, 1), (59, .invokevirtual 265, 3), (62, .ireturn, 1)]
set_option maxRecDepth 100000 in
theorem kX10_readsOne : tX10_readsOne.all (fun q => decide (decode cX10_readsOne q.1 = .ok q.2)) = true := by decide +kernel
def tX10_readsSide : List (Nat × Instr × Nat) := [(0, .aload_n 0, 1), (1, .getfield 258, 3), (4, .iconst 3, 1), (5, .ishr, 1), (6, .iconst 1, 1), (7, .iand, 1), (8, .iconst 1, 1), (9, .if_icmp .ne 9, 3), (12, .aload_n 0, 1), (13, .iconst 3, 1), (14, .invokevirtual 195, 3), (17, .ireturn, 1), (18, .aload_n 0, 1), (19, .dup, 1), (20, .getfield 258, 3), (23, .bipush 8, 2), (25, .ior, 1), (26, .putfield 258, 3), (29, .aload_n 0, 1), (30, .invokevirtual 201, 3), (33, .aload_n 0, 1), (34, .iconst 1, 1), (35, .bipush 8, 2), (37, .invokevirtual 261, 3), (40, .ifCond .ne 5, 3), (43, .iconst 0, 1), (44, .ireturn, 1), (45, .aload_n 0, 1), (46, .getfield 13, 3), (49, .bipush 13, 2), (51, .aload_n 0, 1), (52, .getfield 255, 3), (55, .iastore, 1), (56, .aload_n 0, 1), (57, .ldc2_w 225, 3), (60, .invokevirtual 269, 3), (63, .ifCond .eq 25, 3), (66, .aload_n 0, 1), (67, .iconst 2, 1), (68, .aload_n 0, 1), (69, .getfield 13, 3), (72, .bipush 13, 2), (74, .iaload, 1), (75, .iconst 1, 1), (76, .iadd, 1), (77, .invokestatic 272, 3), (80, .bipush 9, 2), (82, .invokevirtual 261, 3), (85, .ifCond .ne 5, 3), (88, .iconst 0, 1), (89, .ireturn, 1), (90, .aload_n 0, 1), (91, .getfield 13, 3), (94, .bipush 14, 2), (96, .aload_n 0, 1), (97, .getfield 255, 3), (100, .iastore, 1), (101, .aload_n 0, 1), (102, .invokevirtual 265, 3), (105, .ireturn, 1)]
set_option maxRecDepth 100000 in
theorem kX10_readsSide : tX10_readsSide.all (fun q => decide (decode cX10_readsSide q.1 = .ok q.2)) = true := by decide +kernel
def tX10_readsLaw : List (Nat × Instr × Nat) := [(0, .aload_n 0, 1), (1, .getfield 13, 3), (4, .bipush 16, 2), (6, .iaload, 1), (7, .istore_n 1, 1), (8, .iload_n 1, 1), (9, .iconst 4, 1), (10, .if_icmp .ne 9, 3), (13, .aload_n 0, 1), (14, .iconst 5, 1), (15, .invokevirtual 195, 3), (18, .ireturn, 1), (19, .aload_n 0, 1), (20, .invokevirtual 201, 3), (23, .aload_n 0, 1), (24, .getfield 16, 3), (27, .iconst 4, 1), (28, .iload_n 1, 1), (29, .iadd, 1), (30, .aload_n 0, 1), (31, .getfield 166, 3), (34, .iastore, 1), (35, .aload_n 0, 1), (36, .invokevirtual 278, 3), (39, .ifCond .ne 5, 3), (42, .iconst 0, 1), (43, .ireturn, 1), (44, .aload_n 0, 1), (45, .getfield 19, 3), (48, .iconst 4, 1), (49, .iload_n 1, 1), (50, .iadd, 1), (51, .aload_n 0, 1), (52, .getfield 166, 3), (55, .iastore, 1), (56, .aload_n 0, 1), (57, .getfield 13, 3), (60, .bipush 16, 2), (62, .dup2, 1), (63, .iaload, 1), (64, .iconst 1, 1), (65, .iadd, 1), (66, .iastore, 1), (67, .iconst 1, 1), (68, .ireturn, 1)]
set_option maxRecDepth 100000 in
theorem kX10_readsLaw : tX10_readsLaw.all (fun q => decide (decode cX10_readsLaw q.1 = .ok q.2)) = true := by decide +kernel
def tX10_kindAt : List (Nat × Instr × Nat) := [(0, .aload_n 0, 1), (1, .ldc2_w 239, 3), (4, .invokevirtual 187, 3), (7, .ifCond .eq 7, 3), (10, .iconst 0, 1), (11, .goto 74, 3), (14, .aload_n 0, 1), (15, .ldc2_w 241, 3), (18, .invokevirtual 187, 3), (21, .ifCond .eq 7, 3), (24, .iconst 1, 1), (25, .goto 60, 3), (28, .aload_n 0, 1), (29, .ldc2_w 243, 3), (32, .invokevirtual 187, 3), (35, .ifCond .eq 7, 3), (38, .iconst 2, 1), (39, .goto 46, 3), (42, .aload_n 0, 1), (43, .ldc2_w 245, 3), (46, .invokevirtual 187, 3), (49, .ifCond .eq 7, 3), (52, .iconst 3, 1), (53, .goto 32, 3), (56, .aload_n 0, 1), (57, .ldc2_w 247, 3), (60, .invokevirtual 187, 3), (63, .ifCond .eq 7, 3), (66, .iconst 4, 1), (67, .goto 18, 3), (70, .aload_n 0, 1), (71, .ldc2_w 249, 3), (74, .invokevirtual 187, 3), (77, .ifCond .eq 7, 3), (80, .iconst 5, 1), (81, .goto 4, 3), (84, .iconst (-1), 1), (85, .ireturn, 1)]
set_option maxRecDepth 100000 in
theorem kX10_kindAt : tX10_kindAt.all (fun q => decide (decode cX10_kindAt q.1 = .ok q.2)) = true := by decide +kernel
def tX10_choosers : List (Nat × Instr × Nat) := [(0, .iconst 0, 1), (1, .istore_n 2, 1), (2, .iconst 0, 1), (3, .istore_n 3, 1), (4, .iload_n 3, 1), (5, .aload_n 0, 1), (6, .getfield 13, 3), (9, .bipush 10, 2), (11, .iload_n 1, 1), (12, .imul, 1), (13, .bipush 7, 2), (15, .iadd, 1), (16, .iaload, 1), (17, .if_icmp .ge 32, 3), (20, .iload_n 2, 1), (21, .aload_n 0, 1), (22, .getfield 41, 3), (25, .bipush 16, 2), (27, .iload_n 1, 1), (28, .imul, 1), (29, .iload_n 3, 1), (30, .iadd, 1), (31, .iaload, 1), (32, .iconst 5, 1), (33, .if_icmp .ne 7, 3), (36, .iconst 1, 1), (37, .goto 4, 3), (40, .iconst 0, 1), (41, .iadd, 1), (42, .istore_n 2, 1), (43, .iinc 3 1, 3), (46, .goto (-42), 3), (49, .iload_n 2, 1), (50, .ireturn, 1)]
set_option maxRecDepth 100000 in
theorem kX10_choosers : tX10_choosers.all (fun q => decide (decode cX10_choosers q.1 = .ok q.2)) = true := by decide +kernel
def tX10_readsPerson : List (Nat × Instr × Nat) := [(0, .aload_n 0, 1), (1, .getfield 13, 3), (4, .bipush 17, 2), (6, .iaload, 1), (7, .istore_n 1, 1), (8, .iload_n 1, 1), (9, .bipush 16, 2), (11, .if_icmp .ne 9, 3), (14, .aload_n 0, 1), (15, .iconst 5, 1), (16, .invokevirtual 195, 3), (19, .ireturn, 1), (20, .aload_n 0, 1), (21, .invokevirtual 201, 3), (24, .aload_n 0, 1), (25, .invokevirtual 281, 3), (28, .ifCond .eq 9, 3), (31, .aload_n 0, 1), (32, .iconst 1, 1), (33, .invokevirtual 195, 3), (36, .ireturn, 1), (37, .iconst 0, 1), (38, .istore_n 2, 1), (39, .iload_n 2, 1), (40, .iload_n 1, 1), (41, .if_icmp .ge 29, 3), (44, .aload_n 0, 1), (45, .getfield 25, 3), (48, .iload_n 2, 1), (49, .laload, 1), (50, .aload_n 0, 1), (51, .getfield 145, 3), (54, .lcmp, 1), (55, .ifCond .ne 9, 3), (58, .aload_n 0, 1), (59, .iconst 3, 1), (60, .invokevirtual 195, 3), (63, .ireturn, 1), (64, .iinc 2 1, 3), (67, .goto (-28), 3), (70, .aload_n 0, 1), (71, .getfield 25, 3), (74, .iload_n 1, 1), (75, .aload_n 0, 1), (76, .getfield 145, 3), (79, .lastore, 1), (80, .aload_n 0, 1), (81, .invokevirtual 201, 3), (84, .aload_n 0, 1), (85, .ldc2_w 171, 3), (88, .invokevirtual 187, 3), (91, .istore_n 2, 1), (92, .iload_n 2, 1), (93, .ifCond .ne 19, 3), (96, .aload_n 0, 1), (97, .ldc2_w 169, 3), (100, .invokevirtual 187, 3), (103, .ifCond .ne 9, 3), (106, .aload_n 0, 1), (107, .iconst 1, 1), (108, .invokevirtual 195, 3), (111, .ireturn, 1), (112, .aload_n 0, 1), (113, .getfield 29, 3), (116, .bipush 16, 2), (118, .iload_n 1, 1), (119, .iadd, 1), (120, .iload_n 2, 1), (121, .ifCond .eq 7, 3), (124, .iconst 1, 1), (125, .goto 4, 3), (128, .iconst 0, 1), (129, .iastore, 1), (130, .aload_n 0, 1), (131, .invokevirtual 201, 3), (134, .aload_n 0, 1), (135, .ldc2_w 233, 3), (138, .invokevirtual 269, 3), (141, .ifCond .eq 14, 3), (144, .aload_n 0, 1), (145, .iconst 0, 1), (146, .sipush 1439, 3), (149, .invokevirtual 261, 3), (152, .ifCond .ne 5, 3), (155, .iconst 0, 1), (156, .ireturn, 1), (157, .aload_n 0, 1), (158, .getfield 32, 3), (161, .bipush 16, 2), (163, .iload_n 1, 1), (164, .iadd, 1), (165, .aload_n 0, 1), (166, .getfield 255, 3), (169, .iastore, 1), (170, .aload_n 0, 1), (171, .ldc2_w 235, 3), (174, .invokevirtual 269, 3), (177, .ifCond .eq 14, 3), (180, .aload_n 0, 1), (181, .iconst 0, 1), (182, .sipush 999, 3), (185, .invokevirtual 261, 3), (188, .ifCond .ne 5, 3), (191, .iconst 0, 1), (192, .ireturn, 1), (193, .aload_n 0, 1), (194, .getfield 35, 3), (197, .bipush 16, 2), (199, .iload_n 1, 1), (200, .iadd, 1), (201, .aload_n 0, 1), (202, .getfield 255, 3), (205, .iastore, 1), (206, .aload_n 0, 1), (207, .ldc2_w 237, 3), (210, .invokevirtual 269, 3), (213, .ifCond .eq 13, 3), (216, .aload_n 0, 1), (217, .iconst 0, 1), (218, .bipush 99, 2), (220, .invokevirtual 261, 3), (223, .ifCond .ne 5, 3), (226, .iconst 0, 1), (227, .ireturn, 1), (228, .aload_n 0, 1), (229, .getfield 38, 3), (232, .bipush 16, 2), (234, .iload_n 1, 1), (235, .iadd, 1), (236, .aload_n 0, 1), (237, .getfield 255, 3), (240, .iastore, 1), (241, .aload_n 0, 1), (242, .invokevirtual 284, 3), (245, .istore_n 3, 1), (246, .iload_n 3, 1), (247, .ifCond .ge 9, 3), (250, .aload_n 0, 1), (251, .iconst 1, 1), (252, .invokevirtual 195, 3), (255, .ireturn, 1), (256, .iload_n 3, 1), (257, .iconst 5, 1), (258, .if_icmp .ne 19, 3), (261, .aload_n 0, 1), (262, .iconst 1, 1), (263, .invokevirtual 287, 3), (266, .bipush 8, 2), (268, .if_icmp .ne 9, 3), (271, .aload_n 0, 1), (272, .iconst 5, 1), (273, .invokevirtual 195, 3), (276, .ireturn, 1), (277, .aload_n 0, 1), (278, .getfield 41, 3), (281, .bipush 16, 2), (283, .iload_n 1, 1), (284, .iadd, 1), (285, .iload_n 3, 1), (286, .iastore, 1), (287, .aload_n 0, 1), (288, .getfield 13, 3), (291, .bipush 17, 2), (293, .dup2, 1), (294, .iaload, 1), (295, .iconst 1, 1), (296, .iadd, 1), (297, .iastore, 1), (298, .aload_n 0, 1), (299, .invokevirtual 201, 3), (302, .aload_n 0, 1), (303, .invokevirtual 265, 3), (306, .ireturn, 1)]
set_option maxRecDepth 100000 in
theorem kX10_readsPerson : tX10_readsPerson.all (fun q => decide (decode cX10_readsPerson q.1 = .ok q.2)) = true := by decide +kernel
def tX10_readsAll : List (Nat × Instr × Nat) := [(0, .aload_n 0, 1), (1, .iconst 1, 1), (2, .invokevirtual 123, 3), (5, .aload_n 0, 1), (6, .iconst 0, 1), (7, .putfield 258, 3), (10, .aload_n 0, 1), (11, .sipush 1000, 3), (14, .putfield 166, 3), (17, .aload_n 0, 1), (18, .aload_n 0, 1), (19, .getfield 133, 3), (22, .putfield 136, 3), (25, .aload_n 0, 1), (26, .iconst 0, 1), (27, .putfield 133, 3), (30, .aload_n 0, 1), (31, .iconst 0, 1), (32, .putfield 139, 3), (35, .aload_n 0, 1), (36, .invokevirtual 201, 3), (39, .aload_n 0, 1), (40, .getfield 152, 3), (43, .ifCond .eq 153, 3), (46, .aload_n 0, 1), (47, .ldc2_w 217, 3), (50, .invokevirtual 187, 3), (53, .ifCond .eq 14, 3), (56, .aload_n 0, 1), (57, .iconst 0, 1), (58, .iconst 1, 1), (59, .bipush 40, 2), (61, .invokevirtual 290, 3), (64, .goto 122, 3), (67, .aload_n 0, 1), (68, .ldc2_w 219, 3), (71, .invokevirtual 187, 3), (74, .ifCond .eq 14, 3), (77, .aload_n 0, 1), (78, .iconst 1, 1), (79, .iconst 0, 1), (80, .bipush 99, 2), (82, .invokevirtual 290, 3), (85, .goto 101, 3), (88, .aload_n 0, 1), (89, .ldc2_w 221, 3), (92, .invokevirtual 187, 3), (95, .ifCond .eq 13, 3), (98, .aload_n 0, 1), (99, .iconst 2, 1), (100, .iconst 1, 1), (101, .iconst 2, 1), (102, .invokevirtual 290, 3), (105, .goto 81, 3), (108, .aload_n 0, 1), (109, .ldc2_w 223, 3), (112, .invokevirtual 187, 3), (115, .ifCond .eq 10, 3), (118, .aload_n 0, 1), (119, .invokevirtual 293, 3), (122, .goto 64, 3), (125, .aload_n 0, 1), (126, .ldc2_w 227, 3), (129, .invokevirtual 187, 3), (132, .ifCond .eq 15, 3), (135, .aload_n 0, 1), (136, .iconst 5, 1), (137, .iconst 0, 1), (138, .sipush 1000, 3), (141, .invokevirtual 290, 3), (144, .goto 42, 3), (147, .aload_n 0, 1), (148, .ldc2_w 229, 3), (151, .invokevirtual 187, 3), (154, .ifCond .eq 10, 3), (157, .aload_n 0, 1), (158, .invokevirtual 296, 3), (161, .goto 25, 3), (164, .aload_n 0, 1), (165, .ldc2_w 231, 3), (168, .invokevirtual 187, 3), (171, .ifCond .eq 10, 3), (174, .aload_n 0, 1), (175, .invokevirtual 299, 3), (178, .goto 8, 3), (181, .aload_n 0, 1), (182, .iconst 1, 1), (183, .invokevirtual 195, 3), (186, .istore_n 1, 1), (187, .iload_n 1, 1), (188, .ifCond .ne 5, 3), (191, .iconst 0, 1), (192, .ireturn, 1), (193, .goto (-154), 3), (196, .iconst 1, 1), (197, .ireturn, 1)]
set_option maxRecDepth 100000 in
theorem kX10_readsAll : tX10_readsAll.all (fun q => decide (decode cX10_readsAll q.1 = .ok q.2)) = true := by decide +kernel
def tX10_moves : List (Nat × Instr × Nat) := [(0, .iconst 0, 1), (1, .istore 4, 2), (3, .iload 4, 2), (5, .iload_n 1, 1), (6, .if_icmp .ge 25, 3), (9, .aload_n 0, 1), (10, .iload_n 1, 1), (11, .iload_n 3, 1), (12, .imul, 1), (13, .iload 4, 2), (15, .iadd, 1), (16, .aload_n 0, 1), (17, .iload_n 1, 1), (18, .iload_n 2, 1), (19, .imul, 1), (20, .iload 4, 2), (22, .iadd, 1), (23, .iaload, 1), (24, .iastore, 1), (25, .iinc 4 1, 3), (28, .goto (-25), 3), (31, .return_, 1)]
set_option maxRecDepth 100000 in
theorem kX10_moves : tX10_moves.all (fun q => decide (decode cX10_moves q.1 = .ok q.2)) = true := by decide +kernel
def tX10_lays : List (Nat × Instr × Nat) := [(0, .aload_n 0, 1), (1, .getfield 13, 3), (4, .bipush 10, 2), (6, .iload_n 1, 1), (7, .iload_n 2, 1), (8, .invokestatic 302, 3), (11, .aload_n 0, 1), (12, .getfield 29, 3), (15, .bipush 16, 2), (17, .iload_n 1, 1), (18, .iload_n 2, 1), (19, .invokestatic 302, 3), (22, .aload_n 0, 1), (23, .getfield 32, 3), (26, .bipush 16, 2), (28, .iload_n 1, 1), (29, .iload_n 2, 1), (30, .invokestatic 302, 3), (33, .aload_n 0, 1), (34, .getfield 35, 3), (37, .bipush 16, 2), (39, .iload_n 1, 1), (40, .iload_n 2, 1), (41, .invokestatic 302, 3), (44, .aload_n 0, 1), (45, .getfield 38, 3), (48, .bipush 16, 2), (50, .iload_n 1, 1), (51, .iload_n 2, 1), (52, .invokestatic 302, 3), (55, .aload_n 0, 1), (56, .getfield 41, 3), (59, .bipush 16, 2), (61, .iload_n 1, 1), (62, .iload_n 2, 1), (63, .invokestatic 302, 3), (66, .aload_n 0, 1), (67, .getfield 44, 3), (70, .bipush 30, 2), (72, .iload_n 1, 1), (73, .iload_n 2, 1), (74, .invokestatic 302, 3), (77, .aload_n 0, 1), (78, .getfield 22, 3), (81, .sipush 1000, 3), (84, .iload_n 1, 1), (85, .iload_n 2, 1), (86, .invokestatic 302, 3), (89, .iconst 0, 1), (90, .istore_n 3, 1), (91, .iload_n 3, 1), (92, .iconst 4, 1), (93, .if_icmp .ge 65, 3), (96, .aload_n 0, 1), (97, .getfield 16, 3), (100, .iconst 4, 1), (101, .iload_n 2, 1), (102, .imul, 1), (103, .iload_n 3, 1), (104, .iadd, 1), (105, .aload_n 0, 1), (106, .getfield 16, 3), (109, .iconst 4, 1), (110, .iload_n 1, 1), (111, .imul, 1), (112, .iload_n 3, 1), (113, .iadd, 1), (114, .iaload, 1), (115, .sipush 1000, 3), (118, .iload_n 2, 1), (119, .iload_n 1, 1), (120, .isub, 1), (121, .imul, 1), (122, .iadd, 1), (123, .iastore, 1), (124, .aload_n 0, 1), (125, .getfield 19, 3), (128, .iconst 4, 1), (129, .iload_n 2, 1), (130, .imul, 1), (131, .iload_n 3, 1), (132, .iadd, 1), (133, .aload_n 0, 1), (134, .getfield 19, 3), (137, .iconst 4, 1), (138, .iload_n 1, 1), (139, .imul, 1), (140, .iload_n 3, 1), (141, .iadd, 1), (142, .iaload, 1), (143, .sipush 1000, 3), (146, .iload_n 2, 1), (147, .iload_n 1, 1), (148, .isub, 1), (149, .imul, 1), (150, .iadd, 1), (151, .iastore, 1), (152, .iinc 3 1, 3), (155, .goto (-64), 3), (158, .return_, 1)]
set_option maxRecDepth 100000 in
theorem kX10_lays : tX10_lays.all (fun q => decide (decode cX10_lays q.1 = .ok q.2)) = true := by decide +kernel
def tX10_river : List (Nat × Instr × Nat) := [(0, .aload_n 0, 1), (1, .iconst 0, 1), (2, .putfield 127, 3), (5, .aload_n 0, 1), (6, .invokevirtual 306, 3), (9, .ifCond .ne 8, 3), (12, .aload_n 0, 1), (13, .getfield 163, 3), (16, .ireturn, 1), (17, .aload_n 0, 1), (18, .iconst 1, 1), (19, .iconst 0, 1), (20, .invokevirtual 309, 3), (23, .aload_n 0, 1), (24, .getfield 13, 3), (27, .bipush 8, 2), (29, .aload_n 0, 1), (30, .getfield 13, 3), (33, .bipush 6, 2), (35, .iaload, 1), (36, .ifCond .le 7, 3), (39, .iconst 0, 1), (40, .goto 4, 3), (43, .iconst (-1), 1), (44, .iastore, 1), (45, .iconst 0, 1), (46, .ireturn, 1)]
set_option maxRecDepth 100000 in
theorem kX10_river : tX10_river.all (fun q => decide (decode cX10_river q.1 = .ok q.2)) = true := by decide +kernel
def tX10_isPerson : List (Nat × Instr × Nat) := [(0, .iload_n 1, 1), (1, .ifCond .lt 18, 3), (4, .iload_n 1, 1), (5, .aload_n 0, 1), (6, .getfield 13, 3), (9, .bipush 7, 2), (11, .iaload, 1), (12, .if_icmp .ge 7, 3), (15, .iconst 1, 1), (16, .goto 4, 3), (19, .iconst 0, 1), (20, .ireturn, 1)]
set_option maxRecDepth 100000 in
theorem kX10_isPerson : tX10_isPerson.all (fun q => decide (decode cX10_isPerson q.1 = .ok q.2)) = true := by decide +kernel
def tX10_isMinute : List (Nat × Instr × Nat) := [(0, .iload_n 0, 1), (1, .ifCond .lt 14, 3), (4, .iload_n 0, 1), (5, .sipush 1440, 3), (8, .if_icmp .ge 7, 3), (11, .iconst 1, 1), (12, .goto 4, 3), (15, .iconst 0, 1), (16, .ireturn, 1)]
set_option maxRecDepth 100000 in
theorem kX10_isMinute : tX10_isMinute.all (fun q => decide (decode cX10_isMinute q.1 = .ok q.2)) = true := by decide +kernel
def tX10_countOf : List (Nat × Instr × Nat) := [(0, .iload_n 0, 1), (1, .iconst 1, 1), (2, .if_icmp .ne 7, 3), (5, .iconst 0, 1), (6, .goto 22, 3), (9, .iload_n 0, 1), (10, .iconst 2, 1), (11, .if_icmp .ne 7, 3), (14, .iconst 1, 1), (15, .goto 13, 3), (18, .iload_n 0, 1), (19, .iconst 3, 1), (20, .if_icmp .ne 7, 3), (23, .iconst 4, 1), (24, .goto 4, 3), (27, .iconst 2, 1), (28, .ireturn, 1)]
set_option maxRecDepth 100000 in
theorem kX10_countOf : tX10_countOf.all (fun q => decide (decode cX10_countOf q.1 = .ok q.2)) = true := by decide +kernel
def tX10_person : List (Nat × Instr × Nat) := [(0, .aload_n 0, 1), (1, .iconst 0, 1), (2, .putfield 127, 3), (5, .aload_n 0, 1), (6, .iload_n 1, 1), (7, .invokevirtual 313, 3), (10, .ifCond .eq 12, 3), (13, .iload_n 2, 1), (14, .iconst 0, 1), (15, .iconst 5, 1), (16, .invokestatic 251, 3), (19, .ifCond .ne 5, 3), (22, .iconst (-1), 1), (23, .ireturn, 1), (24, .iload_n 2, 1), (25, .ifCond .ne 12, 3), (28, .aload_n 0, 1), (29, .getfield 29, 3), (32, .iload_n 1, 1), (33, .iaload, 1), (34, .goto 68, 3), (37, .iload_n 2, 1), (38, .iconst 1, 1), (39, .if_icmp .ne 12, 3), (42, .aload_n 0, 1), (43, .getfield 32, 3), (46, .iload_n 1, 1), (47, .iaload, 1), (48, .goto 54, 3), (51, .iload_n 2, 1), (52, .iconst 2, 1), (53, .if_icmp .ne 12, 3), (56, .aload_n 0, 1), (57, .getfield 35, 3), (60, .iload_n 1, 1), (61, .iaload, 1), (62, .goto 40, 3), (65, .iload_n 2, 1), (66, .iconst 3, 1), (67, .if_icmp .ne 12, 3), (70, .aload_n 0, 1), (71, .getfield 38, 3), (74, .iload_n 1, 1), (75, .iaload, 1), (76, .goto 26, 3), (79, .iload_n 2, 1), (80, .iconst 4, 1), (81, .if_icmp .ne 12, 3), (84, .aload_n 0, 1), (85, .getfield 41, 3), (88, .iload_n 1, 1), (89, .iaload, 1), (90, .goto 12, 3), (93, .aload_n 0, 1), (94, .getfield 41, 3), (97, .iload_n 1, 1), (98, .iaload, 1), (99, .invokestatic 316, 3), (102, .ireturn, 1)]
set_option maxRecDepth 100000 in
theorem kX10_person : tX10_person.all (fun q => decide (decode cX10_person q.1 = .ok q.2)) = true := by decide +kernel
def tX10_use : List (Nat × Instr × Nat) := [(0, .aload_n 0, 1), (1, .iconst 0, 1), (2, .putfield 127, 3), (5, .iload_n 1, 1), (6, .iconst (-1), 1), (7, .aload_n 0, 1), (8, .getfield 13, 3), (11, .bipush 6, 2), (13, .iaload, 1), (14, .iconst 1, 1), (15, .isub, 1), (16, .invokestatic 251, 3), (19, .ifCond .ne 5, 3), (22, .iconst 0, 1), (23, .ireturn, 1), (24, .aload_n 0, 1), (25, .getfield 13, 3), (28, .bipush 8, 2), (30, .iload_n 1, 1), (31, .iastore, 1), (32, .iconst 1, 1), (33, .ireturn, 1)]
set_option maxRecDepth 100000 in
theorem kX10_use : tX10_use.all (fun q => decide (decode cX10_use q.1 = .ok q.2)) = true := by decide +kernel
def tX10_joins : List (Nat × Instr × Nat) := [(0, .aload_n 0, 1), (1, .getfield 84, 3), (4, .aload_n 0, 1), (5, .getfield 319, 3), (8, .iload_n 1, 1), (9, .iastore, 1), (10, .aload_n 0, 1), (11, .getfield 87, 3), (14, .aload_n 0, 1), (15, .getfield 319, 3), (18, .iload_n 2, 1), (19, .iastore, 1), (20, .aload_n 0, 1), (21, .getfield 90, 3), (24, .aload_n 0, 1), (25, .getfield 319, 3), (28, .iload_n 3, 1), (29, .iastore, 1), (30, .aload_n 0, 1), (31, .getfield 93, 3), (34, .aload_n 0, 1), (35, .getfield 319, 3), (38, .iload 4, 2), (40, .iastore, 1), (41, .aload_n 0, 1), (42, .getfield 96, 3), (45, .aload_n 0, 1), (46, .getfield 319, 3), (49, .iload 5, 2), (51, .iastore, 1), (52, .aload_n 0, 1), (53, .getfield 99, 3), (56, .aload_n 0, 1), (57, .getfield 319, 3), (60, .iconst (-1), 1), (61, .iastore, 1), (62, .aload_n 0, 1), (63, .getfield 102, 3), (66, .aload_n 0, 1), (67, .getfield 319, 3), (70, .iconst (-1), 1), (71, .iastore, 1), (72, .aload_n 0, 1), (73, .dup, 1), (74, .getfield 319, 3), (77, .iconst 1, 1), (78, .iadd, 1), (79, .putfield 319, 3), (82, .return_, 1)]
set_option maxRecDepth 100000 in
theorem kX10_joins : tX10_joins.all (fun q => decide (decode cX10_joins q.1 = .ok q.2)) = true := by decide +kernel
def tX10_dawns : List (Nat × Instr × Nat) := [(0, .aload_n 0, 1), (1, .iconst 0, 1), (2, .putfield 319, 3), (5, .aload_n 0, 1), (6, .iconst 0, 1), (7, .putfield 322, 3), (10, .aload_n 0, 1), (11, .iconst 0, 1), (12, .putfield 325, 3), (15, .aload_n 0, 1), (16, .aload_n 0, 1), (17, .getfield 13, 3), (20, .iconst 2, 1), (21, .iaload, 1), (22, .iconst 2, 1), (23, .if_icmp .ne 7, 3), (26, .iconst 0, 1), (27, .goto 6, 3), (30, .ldc_w 328, 3), (33, .putfield 329, 3), (36, .aload_n 0, 1), (37, .aload_n 0, 1), (38, .getfield 13, 3), (41, .bipush 8, 2), (43, .iaload, 1), (44, .putfield 332, 3), (47, .return_, 1)]
set_option maxRecDepth 100000 in
theorem kX10_dawns : tX10_dawns.all (fun q => decide (decode cX10_dawns q.1 = .ok q.2)) = true := by decide +kernel
def tX10_tellsAll : List (Nat × Instr × Nat) := [(0, .aload_n 0, 1), (1, .invokevirtual 335, 3), (4, .iconst 0, 1), (5, .istore_n 2, 1), (6, .iconst 0, 1), (7, .istore_n 3, 1), (8, .iload_n 3, 1), (9, .aload_n 0, 1), (10, .getfield 13, 3), (13, .bipush 7, 2), (15, .iaload, 1), (16, .if_icmp .ge 93, 3), (19, .aload_n 0, 1), (20, .getfield 41, 3), (23, .iload_n 3, 1), (24, .iaload, 1), (25, .iconst 5, 1), (26, .if_icmp .ne 7, 3), (29, .iconst 1, 1), (30, .goto 4, 3), (33, .iconst 0, 1), (34, .istore 4, 2), (36, .aload_n 0, 1), (37, .iload 4, 2), (39, .ifCond .eq 15, 3), (42, .iload_n 1, 1), (43, .ifCond .lt 11, 3), (46, .iload_n 1, 1), (47, .iload_n 2, 1), (48, .ishr, 1), (49, .iconst 1, 1), (50, .iand, 1), (51, .goto 9, 3), (54, .aload_n 0, 1), (55, .getfield 29, 3), (58, .iload_n 3, 1), (59, .iaload, 1), (60, .aload_n 0, 1), (61, .getfield 32, 3), (64, .iload_n 3, 1), (65, .iaload, 1), (66, .aload_n 0, 1), (67, .getfield 35, 3), (70, .iload_n 3, 1), (71, .iaload, 1), (72, .aload_n 0, 1), (73, .getfield 38, 3), (76, .iload_n 3, 1), (77, .iaload, 1), (78, .aload_n 0, 1), (79, .getfield 41, 3), (82, .iload_n 3, 1), (83, .iaload, 1), (84, .invokestatic 316, 3), (87, .invokevirtual 338, 3), (90, .iload_n 2, 1), (91, .iload 4, 2), (93, .ifCond .eq 7, 3), (96, .iconst 1, 1), (97, .goto 4, 3), (100, .iconst 0, 1), (101, .iadd, 1), (102, .istore_n 2, 1), (103, .iinc 3 1, 3), (106, .goto (-98), 3), (109, .return_, 1)]
set_option maxRecDepth 100000 in
theorem kX10_tellsAll : tX10_tellsAll.all (fun q => decide (decode cX10_tellsAll q.1 = .ok q.2)) = true := by decide +kernel
def tX10_isWaiting : List (Nat × Instr × Nat) := [(0, .aload_n 0, 1), (1, .getfield 87, 3), (4, .iload_n 1, 1), (5, .iaload, 1), (6, .iload_n 2, 1), (7, .if_icmp .gt 17, 3), (10, .aload_n 0, 1), (11, .getfield 99, 3), (14, .iload_n 1, 1), (15, .iaload, 1), (16, .iconst (-1), 1), (17, .if_icmp .ne 7, 3), (20, .iconst 1, 1), (21, .goto 4, 3), (24, .iconst 0, 1), (25, .ireturn, 1)]
set_option maxRecDepth 100000 in
theorem kX10_isWaiting : tX10_isWaiting.all (fun q => decide (decode cX10_isWaiting q.1 = .ok q.2)) = true := by decide +kernel
def tX10_wouldRing : List (Nat × Instr × Nat) := [(0, .aload_n 0, 1), (1, .getfield 325, 3), (4, .iload_n 1, 1), (5, .if_icmp .le 13, 3), (8, .aload_n 0, 1), (9, .getfield 329, 3), (12, .iload_n 1, 1), (13, .if_icmp .le 5, 3), (16, .iconst 0, 1), (17, .ireturn, 1), (18, .iconst 0, 1), (19, .istore_n 2, 1), (20, .iconst 1, 1), (21, .istore_n 3, 1), (22, .iload_n 3, 1), (23, .bipush 7, 2), (25, .if_icmp .ge 16, 3), (28, .aload_n 0, 1), (29, .getfield 81, 3), (32, .iload_n 3, 1), (33, .iconst 0, 1), (34, .iastore, 1), (35, .iinc 3 1, 3), (38, .goto (-16), 3), (41, .iconst 0, 1), (42, .istore_n 3, 1), (43, .iload_n 3, 1), (44, .aload_n 0, 1), (45, .getfield 319, 3), (48, .if_icmp .ge 90, 3), (51, .aload_n 0, 1), (52, .iload_n 3, 1), (53, .iload_n 1, 1), (54, .invokevirtual 342, 3), (57, .ifCond .ne 6, 3), (60, .goto 72, 3), (63, .iconst 1, 1), (64, .istore_n 2, 1), (65, .aload_n 0, 1), (66, .getfield 81, 3), (69, .iconst 1, 1), (70, .aload_n 0, 1), (71, .getfield 84, 3), (74, .iload_n 3, 1), (75, .iaload, 1), (76, .iadd, 1), (77, .dup2, 1), (78, .iaload, 1), (79, .aload_n 0, 1), (80, .getfield 96, 3), (83, .iload_n 3, 1), (84, .iaload, 1), (85, .iadd, 1), (86, .iastore, 1), (87, .aload_n 0, 1), (88, .getfield 81, 3), (91, .iconst 3, 1), (92, .aload_n 0, 1), (93, .getfield 84, 3), (96, .iload_n 3, 1), (97, .iaload, 1), (98, .iadd, 1), (99, .dup2, 1), (100, .iaload, 1), (101, .aload_n 0, 1), (102, .getfield 90, 3), (105, .iload_n 3, 1), (106, .iaload, 1), (107, .iadd, 1), (108, .iastore, 1), (109, .aload_n 0, 1), (110, .getfield 81, 3), (113, .iconst 5, 1), (114, .aload_n 0, 1), (115, .getfield 81, 3), (118, .iconst 5, 1), (119, .iaload, 1), (120, .iload_n 1, 1), (121, .aload_n 0, 1), (122, .getfield 87, 3), (125, .iload_n 3, 1), (126, .iaload, 1), (127, .isub, 1), (128, .invokestatic 272, 3), (131, .iastore, 1), (132, .iinc 3 1, 3), (135, .goto (-92), 3), (138, .aload_n 0, 1), (139, .getfield 81, 3), (142, .bipush 6, 2), (144, .iload_n 1, 1), (145, .iastore, 1), (146, .iload_n 2, 1), (147, .ifCond .ne 5, 3), (150, .iconst 0, 1), (151, .ireturn, 1), (152, .aload_n 0, 1), (153, .getfield 332, 3), (156, .ifCond .ge 35, 3), (159, .aload_n 0, 1), (160, .getfield 81, 3), (163, .iconst 1, 1), (164, .iaload, 1), (165, .aload_n 0, 1), (166, .getfield 81, 3), (169, .iconst 2, 1), (170, .iaload, 1), (171, .if_icmp .ne 16, 3), (174, .aload_n 0, 1), (175, .getfield 81, 3), (178, .iconst 1, 1), (179, .iaload, 1), (180, .ifCond .le 7, 3), (183, .iconst 1, 1), (184, .goto 23, 3), (187, .iconst 0, 1), (188, .goto 19, 3), (191, .aload_n 0, 1), (192, .aload_n 0, 1), (193, .getfield 332, 3), (196, .invokevirtual 345, 3), (199, .ifCond .eq 7, 3), (202, .iconst 1, 1), (203, .goto 4, 3), (206, .iconst 0, 1), (207, .ireturn, 1)]
set_option maxRecDepth 100000 in
theorem kX10_wouldRing : tX10_wouldRing.all (fun q => decide (decode cX10_wouldRing q.1 = .ok q.2)) = true := by decide +kernel
def tX10_firstOf : List (Nat × Instr × Nat) := [(0, .iconst (-1), 1), (1, .istore_n 3, 1), (2, .iconst 0, 1), (3, .istore 4, 2), (5, .iload 4, 2), (7, .aload_n 0, 1), (8, .getfield 319, 3), (11, .if_icmp .ge 53, 3), (14, .aload_n 0, 1), (15, .getfield 84, 3), (18, .iload 4, 2), (20, .iaload, 1), (21, .iload_n 1, 1), (22, .if_icmp .ne 36, 3), (25, .aload_n 0, 1), (26, .iload 4, 2), (28, .iload_n 2, 1), (29, .invokevirtual 342, 3), (32, .ifCond .eq 26, 3), (35, .iload_n 3, 1), (36, .ifCond .lt 19, 3), (39, .aload_n 0, 1), (40, .getfield 87, 3), (43, .iload 4, 2), (45, .iaload, 1), (46, .aload_n 0, 1), (47, .getfield 87, 3), (50, .iload_n 3, 1), (51, .iaload, 1), (52, .if_icmp .ge 6, 3), (55, .iload 4, 2), (57, .istore_n 3, 1), (58, .iinc 4 1, 3), (61, .goto (-56), 3), (64, .iload_n 3, 1), (65, .ireturn, 1)]
set_option maxRecDepth 100000 in
theorem kX10_firstOf : tX10_firstOf.all (fun q => decide (decode cX10_firstOf q.1 = .ok q.2)) = true := by decide +kernel
def tX10_leaves : List (Nat × Instr × Nat) := [(0, .iconst 0, 1), (1, .istore_n 3, 1), (2, .aload_n 0, 1), (3, .iload_n 1, 1), (4, .iload_n 2, 1), (5, .invokevirtual 348, 3), (8, .istore 4, 2), (10, .iload 4, 2), (12, .ifCond .lt 46, 3), (15, .iload_n 3, 1), (16, .aload_n 0, 1), (17, .getfield 13, 3), (20, .iconst 0, 1), (21, .iaload, 1), (22, .if_icmp .ge 36, 3), (25, .aload_n 0, 1), (26, .getfield 99, 3), (29, .iload 4, 2), (31, .iload_n 2, 1), (32, .iastore, 1), (33, .aload_n 0, 1), (34, .getfield 102, 3), (37, .iload 4, 2), (39, .aload_n 0, 1), (40, .getfield 322, 3), (43, .iastore, 1), (44, .iinc 3 1, 3), (47, .aload_n 0, 1), (48, .iload_n 1, 1), (49, .iload_n 2, 1), (50, .invokevirtual 348, 3), (53, .istore 4, 2), (55, .goto (-45), 3), (58, .iload_n 3, 1), (59, .ireturn, 1)]
set_option maxRecDepth 100000 in
theorem kX10_leaves : tX10_leaves.all (fun q => decide (decode cX10_leaves q.1 = .ok q.2)) = true := by decide +kernel
def tX10_ringsOnce : List (Nat × Instr × Nat) := [(0, .aload_n 0, 1), (1, .getfield 105, 3), (4, .aload_n 0, 1), (5, .getfield 322, 3), (8, .iload_n 1, 1), (9, .iastore, 1), (10, .aload_n 0, 1), (11, .getfield 108, 3), (14, .aload_n 0, 1), (15, .getfield 322, 3), (18, .aload_n 0, 1), (19, .iconst 0, 1), (20, .iload_n 1, 1), (21, .invokevirtual 351, 3), (24, .iastore, 1), (25, .aload_n 0, 1), (26, .getfield 111, 3), (29, .aload_n 0, 1), (30, .getfield 322, 3), (33, .aload_n 0, 1), (34, .iconst 1, 1), (35, .iload_n 1, 1), (36, .invokevirtual 351, 3), (39, .iastore, 1), (40, .aload_n 0, 1), (41, .dup, 1), (42, .getfield 322, 3), (45, .iconst 1, 1), (46, .iadd, 1), (47, .putfield 322, 3), (50, .aload_n 0, 1), (51, .getfield 325, 3), (54, .iload_n 1, 1), (55, .if_icmp .gt 18, 3), (58, .aload_n 0, 1), (59, .iload_n 1, 1), (60, .aload_n 0, 1), (61, .getfield 13, 3), (64, .iconst 1, 1), (65, .iaload, 1), (66, .iadd, 1), (67, .putfield 325, 3), (70, .goto 15, 3), (73, .aload_n 0, 1), (74, .iload_n 1, 1), (75, .aload_n 0, 1), (76, .getfield 13, 3), (79, .iconst 1, 1), (80, .iaload, 1), (81, .iadd, 1), (82, .putfield 329, 3), (85, .return_, 1)]
set_option maxRecDepth 100000 in
theorem kX10_ringsOnce : tX10_ringsOnce.all (fun q => decide (decode cX10_ringsOnce q.1 = .ok q.2)) = true := by decide +kernel
def tX10_goesOn : List (Nat × Instr × Nat) := [(0, .iload_n 1, 1), (1, .istore_n 3, 1), (2, .iload_n 3, 1), (3, .iload_n 2, 1), (4, .if_icmp .gt 25, 3), (7, .aload_n 0, 1), (8, .iload_n 3, 1), (9, .invokevirtual 354, 3), (12, .ifCond .eq 11, 3), (15, .aload_n 0, 1), (16, .iload_n 3, 1), (17, .invokevirtual 357, 3), (20, .goto (-13), 3), (23, .iinc 3 1, 3), (26, .goto (-24), 3), (29, .return_, 1)]
set_option maxRecDepth 100000 in
theorem kX10_goesOn : tX10_goesOn.all (fun q => decide (decode cX10_goesOn q.1 = .ok q.2)) = true := by decide +kernel
def tX10_day : List (Nat × Instr × Nat) := [(0, .aload_n 0, 1), (1, .iload_n 1, 1), (2, .invokevirtual 360, 3), (5, .aload_n 0, 1), (6, .iconst 0, 1), (7, .sipush 1439, 3), (10, .invokevirtual 363, 3), (13, .return_, 1)]
set_option maxRecDepth 100000 in
theorem kX10_day : tX10_day.all (fun q => decide (decode cX10_day q.1 = .ok q.2)) = true := by decide +kernel
def tX10_waitOf : List (Nat × Instr × Nat) := [(0, .aload_n 0, 1), (1, .getfield 99, 3), (4, .iload_n 1, 1), (5, .iaload, 1), (6, .ifCond .ge 9, 3), (9, .sipush 1440, 3), (12, .goto 9, 3), (15, .aload_n 0, 1), (16, .getfield 99, 3), (19, .iload_n 1, 1), (20, .iaload, 1), (21, .aload_n 0, 1), (22, .getfield 87, 3), (25, .iload_n 1, 1), (26, .iaload, 1), (27, .isub, 1), (28, .ireturn, 1)]
set_option maxRecDepth 100000 in
theorem kX10_waitOf : tX10_waitOf.all (fun q => decide (decode cX10_waitOf q.1 = .ok q.2)) = true := by decide +kernel
def tX10_costAll : List (Nat × Instr × Nat) := [(0, .iconst 0, 1), (1, .istore_n 2, 1), (2, .iconst 0, 1), (3, .istore_n 3, 1), (4, .iload_n 3, 1), (5, .aload_n 0, 1), (6, .getfield 319, 3), (9, .if_icmp .ge 33, 3), (12, .iload_n 2, 1), (13, .iload_n 3, 1), (14, .iload_n 1, 1), (15, .if_icmp .ne 7, 3), (18, .iconst 0, 1), (19, .goto 15, 3), (22, .aload_n 0, 1), (23, .getfield 93, 3), (26, .iload_n 3, 1), (27, .iaload, 1), (28, .aload_n 0, 1), (29, .iload_n 3, 1), (30, .invokevirtual 366, 3), (33, .imul, 1), (34, .iadd, 1), (35, .istore_n 2, 1), (36, .iinc 3 1, 3), (39, .goto (-35), 3), (42, .iload_n 2, 1), (43, .ireturn, 1)]
set_option maxRecDepth 100000 in
theorem kX10_costAll : tX10_costAll.all (fun q => decide (decode cX10_costAll q.1 = .ok q.2)) = true := by decide +kernel
def tX10_rings : List (Nat × Instr × Nat) := [(0, .aload_n 0, 1), (1, .iconst 0, 1), (2, .putfield 127, 3), (5, .aload_n 0, 1), (6, .iconst (-1), 1), (7, .invokevirtual 369, 3), (10, .aload_n 0, 1), (11, .getfield 322, 3), (14, .ireturn, 1)]
set_option maxRecDepth 100000 in
theorem kX10_rings : tX10_rings.all (fun q => decide (decode cX10_rings q.1 = .ok q.2)) = true := by decide +kernel
def tX10_ring : List (Nat × Instr × Nat) := [(0, .aload_n 0, 1), (1, .iconst 0, 1), (2, .putfield 127, 3), (5, .aload_n 0, 1), (6, .iconst (-1), 1), (7, .invokevirtual 369, 3), (10, .iload_n 1, 1), (11, .ifCond .lt 20, 3), (14, .iload_n 1, 1), (15, .aload_n 0, 1), (16, .getfield 322, 3), (19, .if_icmp .ge 12, 3), (22, .iload_n 2, 1), (23, .iconst 0, 1), (24, .iconst 2, 1), (25, .invokestatic 251, 3), (28, .ifCond .ne 5, 3), (31, .iconst (-1), 1), (32, .ireturn, 1), (33, .iload_n 2, 1), (34, .ifCond .ne 12, 3), (37, .aload_n 0, 1), (38, .getfield 105, 3), (41, .iload_n 1, 1), (42, .iaload, 1), (43, .goto 23, 3), (46, .iload_n 2, 1), (47, .iconst 1, 1), (48, .if_icmp .ne 12, 3), (51, .aload_n 0, 1), (52, .getfield 108, 3), (55, .iload_n 1, 1), (56, .iaload, 1), (57, .goto 9, 3), (60, .aload_n 0, 1), (61, .getfield 111, 3), (64, .iload_n 1, 1), (65, .iaload, 1), (66, .ireturn, 1)]
set_option maxRecDepth 100000 in
theorem kX10_ring : tX10_ring.all (fun q => decide (decode cX10_ring q.1 = .ok q.2)) = true := by decide +kernel
def tX10_waits : List (Nat × Instr × Nat) := [(0, .aload_n 0, 1), (1, .iconst 0, 1), (2, .putfield 127, 3), (5, .aload_n 0, 1), (6, .iload_n 1, 1), (7, .invokevirtual 313, 3), (10, .ifCond .eq 12, 3), (13, .iload_n 2, 1), (14, .iconst 0, 1), (15, .iconst 1, 1), (16, .invokestatic 251, 3), (19, .ifCond .ne 5, 3), (22, .iconst (-1), 1), (23, .ireturn, 1), (24, .aload_n 0, 1), (25, .iconst (-1), 1), (26, .invokevirtual 369, 3), (29, .iload_n 2, 1), (30, .ifCond .ne 11, 3), (33, .aload_n 0, 1), (34, .iload_n 1, 1), (35, .invokevirtual 366, 3), (38, .goto 9, 3), (41, .aload_n 0, 1), (42, .getfield 102, 3), (45, .iload_n 1, 1), (46, .iaload, 1), (47, .ireturn, 1)]
set_option maxRecDepth 100000 in
theorem kX10_waits : tX10_waits.all (fun q => decide (decode cX10_waits q.1 = .ok q.2)) = true := by decide +kernel
def tX10_all : List (Nat × Instr × Nat) := [(0, .aload_n 0, 1), (1, .iconst 0, 1), (2, .putfield 127, 3), (5, .iload_n 1, 1), (6, .iconst 0, 1), (7, .iconst 2, 1), (8, .invokestatic 251, 3), (11, .ifCond .ne 5, 3), (14, .iconst (-1), 1), (15, .ireturn, 1), (16, .aload_n 0, 1), (17, .iconst (-1), 1), (18, .invokevirtual 369, 3), (21, .iload_n 1, 1), (22, .ifCond .ne 9, 3), (25, .aload_n 0, 1), (26, .iconst (-1), 1), (27, .invokevirtual 372, 3), (30, .ireturn, 1), (31, .iconst 0, 1), (32, .istore_n 2, 1), (33, .iconst 0, 1), (34, .istore_n 3, 1), (35, .iconst 0, 1), (36, .istore 4, 2), (38, .iload 4, 2), (40, .aload_n 0, 1), (41, .getfield 319, 3), (44, .if_icmp .ge 41, 3), (47, .iload_n 2, 1), (48, .aload_n 0, 1), (49, .iload 4, 2), (51, .invokevirtual 366, 3), (54, .invokestatic 272, 3), (57, .istore_n 2, 1), (58, .iload_n 3, 1), (59, .aload_n 0, 1), (60, .getfield 99, 3), (63, .iload 4, 2), (65, .iaload, 1), (66, .ifCond .ge 10, 3), (69, .iconst 1, 1), (70, .iload 4, 2), (72, .ishl, 1), (73, .goto 4, 3), (76, .iconst 0, 1), (77, .ior, 1), (78, .istore_n 3, 1), (79, .iinc 4 1, 3), (82, .goto (-44), 3), (85, .iload_n 1, 1), (86, .iconst 1, 1), (87, .if_icmp .ne 7, 3), (90, .iload_n 2, 1), (91, .goto 4, 3), (94, .iload_n 3, 1), (95, .ireturn, 1)]
set_option maxRecDepth 100000 in
theorem kX10_all : tX10_all.all (fun q => decide (decode cX10_all q.1 = .ok q.2)) = true := by decide +kernel
def tX10_waitsBehind : List (Nat × Instr × Nat) := [(0, .aload_n 0, 1), (1, .getfield 87, 3), (4, .iload_n 1, 1), (5, .iaload, 1), (6, .iload_n 2, 1), (7, .if_icmp .gt 26, 3), (10, .aload_n 0, 1), (11, .getfield 99, 3), (14, .iload_n 1, 1), (15, .iaload, 1), (16, .ifCond .lt 13, 3), (19, .aload_n 0, 1), (20, .getfield 99, 3), (23, .iload_n 1, 1), (24, .iaload, 1), (25, .iload_n 2, 1), (26, .if_icmp .le 7, 3), (29, .iconst 1, 1), (30, .goto 4, 3), (33, .iconst 0, 1), (34, .ireturn, 1)]
set_option maxRecDepth 100000 in
theorem kX10_waitsBehind : tX10_waitsBehind.all (fun q => decide (decode cX10_waitsBehind q.1 = .ok q.2)) = true := by decide +kernel
def tX10_bank : List (Nat × Instr × Nat) := [(0, .aload_n 0, 1), (1, .iconst 0, 1), (2, .putfield 127, 3), (5, .iload_n 1, 1), (6, .iconst 0, 1), (7, .iconst 1, 1), (8, .invokestatic 251, 3), (11, .ifCond .eq 19, 3), (14, .iload_n 2, 1), (15, .invokestatic 375, 3), (18, .ifCond .eq 12, 3), (21, .iload_n 3, 1), (22, .iconst 0, 1), (23, .iconst 2, 1), (24, .invokestatic 251, 3), (27, .ifCond .ne 5, 3), (30, .iconst (-1), 1), (31, .ireturn, 1), (32, .aload_n 0, 1), (33, .iconst (-1), 1), (34, .invokevirtual 369, 3), (37, .iconst 0, 1), (38, .istore 4, 2), (40, .iconst 0, 1), (41, .istore 5, 2), (43, .iload 5, 2), (45, .aload_n 0, 1), (46, .getfield 319, 3), (49, .if_icmp .ge 68, 3), (52, .aload_n 0, 1), (53, .getfield 84, 3), (56, .iload 5, 2), (58, .iaload, 1), (59, .iload_n 1, 1), (60, .if_icmp .ne 51, 3), (63, .aload_n 0, 1), (64, .iload 5, 2), (66, .iload_n 2, 1), (67, .invokevirtual 378, 3), (70, .ifCond .ne 6, 3), (73, .goto 38, 3), (76, .iload 4, 2), (78, .iload_n 3, 1), (79, .ifCond .ne 7, 3), (82, .iconst 1, 1), (83, .goto 25, 3), (86, .iload_n 3, 1), (87, .iconst 1, 1), (88, .if_icmp .ne 13, 3), (91, .aload_n 0, 1), (92, .getfield 96, 3), (95, .iload 5, 2), (97, .iaload, 1), (98, .goto 10, 3), (101, .aload_n 0, 1), (102, .getfield 90, 3), (105, .iload 5, 2), (107, .iaload, 1), (108, .iadd, 1), (109, .istore 4, 2), (111, .iinc 5 1, 3), (114, .goto (-71), 3), (117, .iload 4, 2), (119, .ireturn, 1)]
set_option maxRecDepth 100000 in
theorem kX10_bank : tX10_bank.all (fun q => decide (decode cX10_bank q.1 = .ok q.2)) = true := by decide +kernel
def tX10_ringsBy : List (Nat × Instr × Nat) := [(0, .aload_n 0, 1), (1, .iconst (-1), 1), (2, .invokevirtual 360, 3), (5, .aload_n 0, 1), (6, .iconst 0, 1), (7, .iload_n 1, 1), (8, .iconst 1, 1), (9, .isub, 1), (10, .invokevirtual 363, 3), (13, .aload_n 0, 1), (14, .getfield 322, 3), (17, .istore 4, 2), (19, .iconst 0, 1), (20, .istore 5, 2), (22, .iload 5, 2), (24, .iload_n 3, 1), (25, .if_icmp .ge 19, 3), (28, .aload_n 0, 1), (29, .iload_n 2, 1), (30, .iload_n 1, 1), (31, .bipush 70, 2), (33, .iconst 0, 1), (34, .iconst 2, 1), (35, .invokevirtual 338, 3), (38, .iinc 5 1, 3), (41, .goto (-19), 3), (44, .aload_n 0, 1), (45, .iload_n 1, 1), (46, .iload_n 1, 1), (47, .invokevirtual 363, 3), (50, .aload_n 0, 1), (51, .getfield 322, 3), (54, .iload 4, 2), (56, .if_icmp .le 7, 3), (59, .iconst 1, 1), (60, .goto 4, 3), (63, .iconst 0, 1), (64, .ireturn, 1)]
set_option maxRecDepth 100000 in
theorem kX10_ringsBy : tX10_ringsBy.all (fun q => decide (decode cX10_ringsBy q.1 = .ok q.2)) = true := by decide +kernel
def tX10_send : List (Nat × Instr × Nat) := [(0, .aload_n 0, 1), (1, .iconst 0, 1), (2, .putfield 127, 3), (5, .iload_n 1, 1), (6, .invokestatic 375, 3), (9, .ifCond .eq 12, 3), (12, .iload_n 2, 1), (13, .iconst 0, 1), (14, .iconst 1, 1), (15, .invokestatic 251, 3), (18, .ifCond .ne 5, 3), (21, .iconst (-1), 1), (22, .ireturn, 1), (23, .iconst 0, 1), (24, .istore_n 3, 1), (25, .iload_n 3, 1), (26, .bipush 40, 2), (28, .if_icmp .gt 57, 3), (31, .iconst 0, 1), (32, .istore 4, 2), (34, .iload 4, 2), (36, .iconst 2, 1), (37, .if_icmp .ge 42, 3), (40, .aload_n 0, 1), (41, .iload_n 1, 1), (42, .iload 4, 2), (44, .iload_n 3, 1), (45, .invokevirtual 381, 3), (48, .ifCond .ne 6, 3), (51, .goto 22, 3), (54, .iload_n 2, 1), (55, .ifCond .ne 7, 3), (58, .iload_n 3, 1), (59, .goto 13, 3), (62, .iload_n 3, 1), (63, .ifCond .ne 7, 3), (66, .iconst (-1), 1), (67, .goto 5, 3), (70, .iload 4, 2), (72, .ireturn, 1), (73, .iinc 4 1, 3), (76, .goto (-42), 3), (79, .iinc 3 1, 3), (82, .goto (-57), 3), (85, .iconst (-1), 1), (86, .ireturn, 1)]
set_option maxRecDepth 100000 in
theorem kX10_send : tX10_send.all (fun q => decide (decode cX10_send q.1 = .ok q.2)) = true := by decide +kernel
def tX10_canTurn : List (Nat × Instr × Nat) := [(0, .aload_n 0, 1), (1, .iload_n 1, 1), (2, .invokevirtual 313, 3), (5, .ifCond .eq 20, 3), (8, .iload_n 2, 1), (9, .invokestatic 375, 3), (12, .ifCond .eq 13, 3), (15, .aload_n 0, 1), (16, .getfield 41, 3), (19, .iload_n 1, 1), (20, .iaload, 1), (21, .iconst 4, 1), (22, .if_icmp .eq 5, 3), (25, .iconst 0, 1), (26, .ireturn, 1), (27, .aload_n 0, 1), (28, .iconst (-1), 1), (29, .invokevirtual 369, 3), (32, .aload_n 0, 1), (33, .iload_n 1, 1), (34, .iload_n 2, 1), (35, .invokevirtual 378, 3), (38, .ireturn, 1)]
set_option maxRecDepth 100000 in
theorem kX10_canTurn : tX10_canTurn.all (fun q => decide (decode cX10_canTurn q.1 = .ok q.2)) = true := by decide +kernel
def tX10_turns : List (Nat × Instr × Nat) := [(0, .aload_n 0, 1), (1, .iload_n 1, 1), (2, .invokevirtual 372, 3), (5, .istore_n 3, 1), (6, .aload_n 0, 1), (7, .iconst (-1), 1), (8, .invokevirtual 360, 3), (11, .aload_n 0, 1), (12, .iconst 0, 1), (13, .iload_n 2, 1), (14, .invokevirtual 363, 3), (17, .aload_n 0, 1), (18, .getfield 99, 3), (21, .iload_n 1, 1), (22, .bipush (-2), 2), (24, .iastore, 1), (25, .aload_n 0, 1), (26, .iload_n 2, 1), (27, .iconst 1, 1), (28, .iadd, 1), (29, .sipush 1439, 3), (32, .invokevirtual 363, 3), (35, .iload_n 3, 1), (36, .aload_n 0, 1), (37, .iload_n 1, 1), (38, .invokevirtual 372, 3), (41, .isub, 1), (42, .ireturn, 1)]
set_option maxRecDepth 100000 in
theorem kX10_turns : tX10_turns.all (fun q => decide (decode cX10_turns q.1 = .ok q.2)) = true := by decide +kernel
def tX10_turn : List (Nat × Instr × Nat) := [(0, .aload_n 0, 1), (1, .aload_n 0, 1), (2, .iload_n 1, 1), (3, .iload_n 2, 1), (4, .invokevirtual 384, 3), (7, .ifCond .eq 7, 3), (10, .iconst 0, 1), (11, .goto 4, 3), (14, .iconst 1, 1), (15, .putfield 127, 3), (18, .aload_n 0, 1), (19, .getfield 127, 3), (22, .iconst 1, 1), (23, .if_icmp .ne 7, 3), (26, .iconst 0, 1), (27, .goto 9, 3), (30, .aload_n 0, 1), (31, .iload_n 1, 1), (32, .iload_n 2, 1), (33, .invokevirtual 387, 3), (36, .ireturn, 1)]
set_option maxRecDepth 100000 in
theorem kX10_turn : tX10_turn.all (fun q => decide (decode cX10_turn q.1 = .ok q.2)) = true := by decide +kernel
def tX10_asks : List (Nat × Instr × Nat) := [(0, .aload_n 0, 1), (1, .iconst 0, 1), (2, .putfield 127, 3), (5, .iconst (-1), 1), (6, .istore_n 2, 1), (7, .iconst 0, 1), (8, .istore_n 3, 1), (9, .iconst 0, 1), (10, .istore 4, 2), (12, .iload 4, 2), (14, .aload_n 0, 1), (15, .getfield 13, 3), (18, .bipush 7, 2), (20, .iaload, 1), (21, .if_icmp .ge 50, 3), (24, .aload_n 0, 1), (25, .iload 4, 2), (27, .iload_n 1, 1), (28, .invokevirtual 384, 3), (31, .ifCond .ne 6, 3), (34, .goto 31, 3), (37, .aload_n 0, 1), (38, .iload 4, 2), (40, .iload_n 1, 1), (41, .invokevirtual 387, 3), (44, .istore 5, 2), (46, .iload_n 2, 1), (47, .ifCond .lt 12, 3), (50, .iload 5, 2), (52, .iload_n 3, 1), (53, .if_icmp .gt 6, 3), (56, .goto 9, 3), (59, .iload 4, 2), (61, .istore_n 2, 1), (62, .iload 5, 2), (64, .istore_n 3, 1), (65, .iinc 4 1, 3), (68, .goto (-56), 3), (71, .iload_n 2, 1), (72, .ireturn, 1)]
set_option maxRecDepth 100000 in
theorem kX10_asks : tX10_asks.all (fun q => decide (decode cX10_asks q.1 = .ok q.2)) = true := by decide +kernel
def tX10_choices : List (Nat × Instr × Nat) := [(0, .iconst 1, 1), (1, .aload_n 0, 1), (2, .iconst 0, 1), (3, .invokevirtual 287, 3), (6, .ishl, 1), (7, .istore_n 1, 1), (8, .iconst 0, 1), (9, .istore_n 2, 1), (10, .iload_n 2, 1), (11, .iload_n 1, 1), (12, .if_icmp .ge 87, 3), (15, .aload_n 0, 1), (16, .iload_n 2, 1), (17, .invokevirtual 369, 3), (20, .aload_n 0, 1), (21, .getfield 114, 3), (24, .iload_n 2, 1), (25, .aload_n 0, 1), (26, .iconst (-1), 1), (27, .invokevirtual 372, 3), (30, .iastore, 1), (31, .iconst 0, 1), (32, .istore_n 3, 1), (33, .iconst 0, 1), (34, .istore 4, 2), (36, .iload 4, 2), (38, .aload_n 0, 1), (39, .getfield 319, 3), (42, .if_icmp .ge 51, 3), (45, .aload_n 0, 1), (46, .getfield 41, 3), (49, .iload 4, 2), (51, .iaload, 1), (52, .iconst 5, 1), (53, .if_icmp .eq 6, 3), (56, .goto 31, 3), (59, .aload_n 0, 1), (60, .getfield 117, 3), (63, .bipush 8, 2), (65, .iload_n 2, 1), (66, .imul, 1), (67, .iload_n 3, 1), (68, .iadd, 1), (69, .aload_n 0, 1), (70, .getfield 93, 3), (73, .iload 4, 2), (75, .iaload, 1), (76, .aload_n 0, 1), (77, .iload 4, 2), (79, .invokevirtual 366, 3), (82, .imul, 1), (83, .iastore, 1), (84, .iinc 3 1, 3), (87, .iinc 4 1, 3), (90, .goto (-54), 3), (93, .iinc 2 1, 3), (96, .goto (-86), 3), (99, .iload_n 1, 1), (100, .ireturn, 1)]
set_option maxRecDepth 100000 in
theorem kX10_choices : tX10_choices.all (fun q => decide (decode cX10_choices q.1 = .ok q.2)) = true := by decide +kernel
def tX10_choice : List (Nat × Instr × Nat) := [(0, .aload_n 0, 1), (1, .iconst 0, 1), (2, .putfield 127, 3), (5, .iload_n 1, 1), (6, .iconst 0, 1), (7, .iconst 1, 1), (8, .invokestatic 251, 3), (11, .ifCond .ne 5, 3), (14, .iconst (-1), 1), (15, .ireturn, 1), (16, .aload_n 0, 1), (17, .invokevirtual 390, 3), (20, .istore_n 2, 1), (21, .iconst 0, 1), (22, .istore_n 3, 1), (23, .iconst 1, 1), (24, .istore 4, 2), (26, .iload 4, 2), (28, .iload_n 2, 1), (29, .if_icmp .ge 28, 3), (32, .aload_n 0, 1), (33, .getfield 114, 3), (36, .iload 4, 2), (38, .iaload, 1), (39, .aload_n 0, 1), (40, .getfield 114, 3), (43, .iload_n 3, 1), (44, .iaload, 1), (45, .if_icmp .ge 6, 3), (48, .iload 4, 2), (50, .istore_n 3, 1), (51, .iinc 4 1, 3), (54, .goto (-28), 3), (57, .iload_n 1, 1), (58, .ifCond .ne 12, 3), (61, .aload_n 0, 1), (62, .getfield 114, 3), (65, .iload_n 3, 1), (66, .iaload, 1), (67, .goto 4, 3), (70, .iload_n 3, 1), (71, .ireturn, 1)]
set_option maxRecDepth 100000 in
theorem kX10_choice : tX10_choice.all (fun q => decide (decode cX10_choice q.1 = .ok q.2)) = true := by decide +kernel
def tX10_chosen : List (Nat × Instr × Nat) := [(0, .aload_n 0, 1), (1, .iconst 0, 1), (2, .putfield 127, 3), (5, .iload_n 1, 1), (6, .iconst 0, 1), (7, .iconst 1, 1), (8, .aload_n 0, 1), (9, .iconst 0, 1), (10, .invokevirtual 287, 3), (13, .ishl, 1), (14, .iconst 1, 1), (15, .isub, 1), (16, .invokestatic 251, 3), (19, .ifCond .ne 5, 3), (22, .iconst (-1), 1), (23, .ireturn, 1), (24, .aload_n 0, 1), (25, .iload_n 1, 1), (26, .invokevirtual 369, 3), (29, .aload_n 0, 1), (30, .iconst (-1), 1), (31, .invokevirtual 372, 3), (34, .ireturn, 1)]
set_option maxRecDepth 100000 in
theorem kX10_chosen : tX10_chosen.all (fun q => decide (decode cX10_chosen q.1 = .ok q.2)) = true := by decide +kernel
def tX10_isRest : List (Nat × Instr × Nat) := [(0, .iconst 0, 1), (1, .istore_n 2, 1), (2, .iload_n 2, 1), (3, .aload_n 0, 1), (4, .iconst 0, 1), (5, .invokevirtual 287, 3), (8, .if_icmp .ge 40, 3), (11, .aload_n 0, 1), (12, .getfield 117, 3), (15, .bipush 8, 2), (17, .iload_n 1, 1), (18, .iconst 1, 1), (19, .iload_n 2, 1), (20, .ishl, 1), (21, .ixor, 1), (22, .imul, 1), (23, .iload_n 2, 1), (24, .iadd, 1), (25, .iaload, 1), (26, .aload_n 0, 1), (27, .getfield 117, 3), (30, .bipush 8, 2), (32, .iload_n 1, 1), (33, .imul, 1), (34, .iload_n 2, 1), (35, .iadd, 1), (36, .iaload, 1), (37, .if_icmp .ge 5, 3), (40, .iconst 0, 1), (41, .ireturn, 1), (42, .iinc 2 1, 3), (45, .goto (-43), 3), (48, .iconst 1, 1), (49, .ireturn, 1)]
set_option maxRecDepth 100000 in
theorem kX10_isRest : tX10_isRest.all (fun q => decide (decode cX10_isRest q.1 = .ok q.2)) = true := by decide +kernel
def tX10_rests : List (Nat × Instr × Nat) := [(0, .aload_n 0, 1), (1, .iconst 0, 1), (2, .putfield 127, 3), (5, .aload_n 0, 1), (6, .invokevirtual 390, 3), (9, .istore_n 1, 1), (10, .iconst 0, 1), (11, .istore_n 2, 1), (12, .iconst 0, 1), (13, .istore_n 3, 1), (14, .iload_n 3, 1), (15, .iload_n 1, 1), (16, .if_icmp .ge 25, 3), (19, .iload_n 2, 1), (20, .aload_n 0, 1), (21, .iload_n 3, 1), (22, .invokevirtual 393, 3), (25, .ifCond .eq 7, 3), (28, .iconst 1, 1), (29, .goto 4, 3), (32, .iconst 0, 1), (33, .iadd, 1), (34, .istore_n 2, 1), (35, .iinc 3 1, 3), (38, .goto (-24), 3), (41, .iload_n 2, 1), (42, .ireturn, 1)]
set_option maxRecDepth 100000 in
theorem kX10_rests : tX10_rests.all (fun q => decide (decode cX10_rests q.1 = .ok q.2)) = true := by decide +kernel
def tX10_rest : List (Nat × Instr × Nat) := [(0, .aload_n 0, 1), (1, .iconst 0, 1), (2, .putfield 127, 3), (5, .aload_n 0, 1), (6, .invokevirtual 390, 3), (9, .istore_n 2, 1), (10, .iconst 0, 1), (11, .istore_n 3, 1), (12, .iconst 0, 1), (13, .istore 4, 2), (15, .iload 4, 2), (17, .iload_n 2, 1), (18, .if_icmp .ge 32, 3), (21, .aload_n 0, 1), (22, .iload 4, 2), (24, .invokevirtual 393, 3), (27, .ifCond .ne 6, 3), (30, .goto 14, 3), (33, .iload_n 3, 1), (34, .iload_n 1, 1), (35, .if_icmp .ne 6, 3), (38, .iload 4, 2), (40, .ireturn, 1), (41, .iinc 3 1, 3), (44, .iinc 4 1, 3), (47, .goto (-32), 3), (50, .iconst (-1), 1), (51, .ireturn, 1)]
set_option maxRecDepth 100000 in
theorem kX10_rest : tX10_rest.all (fun q => decide (decode cX10_rest q.1 = .ok q.2)) = true := by decide +kernel
def tX10_tell : List (Nat × Instr × Nat) := [(0, .aload_n 0, 1), (1, .iconst 0, 1), (2, .putfield 127, 3), (5, .aload_n 0, 1), (6, .getfield 13, 3), (9, .bipush 9, 2), (11, .iaload, 1), (12, .istore_n 2, 1), (13, .iload_n 1, 1), (14, .invokestatic 375, 3), (17, .ifCond .eq 25, 3), (20, .iload_n 2, 1), (21, .bipush 30, 2), (23, .if_icmp .eq 19, 3), (26, .iload_n 2, 1), (27, .ifCond .le 17, 3), (30, .iload_n 1, 1), (31, .aload_n 0, 1), (32, .getfield 44, 3), (35, .iload_n 2, 1), (36, .iconst 1, 1), (37, .isub, 1), (38, .iaload, 1), (39, .if_icmp .gt 5, 3), (42, .iconst (-1), 1), (43, .ireturn, 1), (44, .aload_n 0, 1), (45, .getfield 44, 3), (48, .iload_n 2, 1), (49, .iload_n 1, 1), (50, .iastore, 1), (51, .aload_n 0, 1), (52, .getfield 13, 3), (55, .bipush 9, 2), (57, .dup2, 1), (58, .iaload, 1), (59, .iconst 1, 1), (60, .iadd, 1), (61, .iastore, 1), (62, .iload_n 2, 1), (63, .iconst 1, 1), (64, .iadd, 1), (65, .ireturn, 1)]
set_option maxRecDepth 100000 in
theorem kX10_tell : tX10_tell.all (fun q => decide (decode cX10_tell q.1 = .ok q.2)) = true := by decide +kernel
def tX10_clear : List (Nat × Instr × Nat) := [(0, .aload_n 0, 1), (1, .iconst 0, 1), (2, .putfield 127, 3), (5, .aload_n 0, 1), (6, .getfield 13, 3), (9, .bipush 9, 2), (11, .iconst 0, 1), (12, .iastore, 1), (13, .iconst 1, 1), (14, .ireturn, 1)]
set_option maxRecDepth 100000 in
theorem kX10_clear : tX10_clear.all (fun q => decide (decode cX10_clear q.1 = .ok q.2)) = true := by decide +kernel
def tX10_judged : List (Nat × Instr × Nat) := [(0, .aload_n 0, 1), (1, .iconst 0, 1), (2, .putfield 127, 3), (5, .iload_n 1, 1), (6, .iconst 0, 1), (7, .iconst 1, 1), (8, .invokestatic 251, 3), (11, .ifCond .ne 5, 3), (14, .iconst (-1), 1), (15, .ireturn, 1), (16, .aload_n 0, 1), (17, .iconst (-1), 1), (18, .invokevirtual 360, 3), (21, .iconst 0, 1), (22, .istore_n 2, 1), (23, .iconst 0, 1), (24, .istore_n 3, 1), (25, .iload_n 3, 1), (26, .sipush 1440, 3), (29, .if_icmp .ge 82, 3), (32, .iload_n 2, 1), (33, .aload_n 0, 1), (34, .getfield 13, 3), (37, .bipush 9, 2), (39, .iaload, 1), (40, .if_icmp .ge 17, 3), (43, .aload_n 0, 1), (44, .getfield 44, 3), (47, .iload_n 2, 1), (48, .iaload, 1), (49, .iload_n 3, 1), (50, .if_icmp .ne 7, 3), (53, .iconst 1, 1), (54, .goto 4, 3), (57, .iconst 0, 1), (58, .istore 4, 2), (60, .iload 4, 2), (62, .aload_n 0, 1), (63, .iload_n 3, 1), (64, .invokevirtual 354, 3), (67, .if_icmp .eq 22, 3), (70, .iload_n 1, 1), (71, .ifCond .ne 7, 3), (74, .iload_n 3, 1), (75, .goto 13, 3), (78, .iload 4, 2), (80, .ifCond .eq 7, 3), (83, .iconst 1, 1), (84, .goto 4, 3), (87, .iconst 2, 1), (88, .ireturn, 1), (89, .iload 4, 2), (91, .ifCond .ne 6, 3), (94, .goto 11, 3), (97, .aload_n 0, 1), (98, .iload_n 3, 1), (99, .invokevirtual 357, 3), (102, .iinc 2 1, 3), (105, .iinc 3 1, 3), (108, .goto (-83), 3), (111, .iconst (-1), 1), (112, .ireturn, 1)]
set_option maxRecDepth 100000 in
theorem kX10_judged : tX10_judged.all (fun q => decide (decode cX10_judged q.1 = .ok q.2)) = true := by decide +kernel
def tX10_firsts : List (Nat × Instr × Nat) := [(0, .lconst 1, 1), (1, .lstore_n 1, 1), (2, .iconst 1, 1), (3, .istore_n 3, 1), (4, .iload_n 3, 1), (5, .iload_n 0, 1), (6, .if_icmp .ge 27, 3), (9, .lload_n 1, 1), (10, .ldc2_w 396, 3), (13, .iconst 2, 1), (14, .iload_n 3, 1), (15, .imul, 1), (16, .iconst 1, 1), (17, .isub, 1), (18, .i2l, 1), (19, .lmul, 1), (20, .lmul, 1), (21, .iload_n 3, 1), (22, .iconst 1, 1), (23, .iadd, 1), (24, .i2l, 1), (25, .ldiv, 1), (26, .lstore_n 1, 1), (27, .iinc 3 1, 3), (30, .goto (-26), 3), (33, .ldc2_w 396, 3), (36, .lload_n 1, 1), (37, .lmul, 1), (38, .lreturn, 1)]
set_option maxRecDepth 100000 in
theorem kX10_firsts : tX10_firsts.all (fun q => decide (decode cX10_firsts q.1 = .ok q.2)) = true := by decide +kernel
def tX10_chance : List (Nat × Instr × Nat) := [(0, .iload_n 1, 1), (1, .invokestatic 398, 3), (4, .lstore_n 2, 1), (5, .iconst 0, 1), (6, .istore 4, 2), (8, .iload 4, 2), (10, .iload_n 1, 1), (11, .if_icmp .ge 34, 3), (14, .lload_n 2, 1), (15, .aload_n 0, 1), (16, .getfield 13, 3), (19, .iconst 3, 1), (20, .iaload, 1), (21, .i2l, 1), (22, .aload_n 0, 1), (23, .getfield 13, 3), (26, .iconst 4, 1), (27, .iaload, 1), (28, .aload_n 0, 1), (29, .getfield 13, 3), (32, .iconst 3, 1), (33, .iaload, 1), (34, .isub, 1), (35, .i2l, 1), (36, .lmul, 1), (37, .lmul, 1), (38, .lstore_n 2, 1), (39, .iinc 4 1, 3), (42, .goto (-34), 3), (45, .iconst 2, 1), (46, .iload_n 1, 1), (47, .imul, 1), (48, .istore 4, 2), (50, .iload 4, 2), (52, .bipush 16, 2), (54, .if_icmp .ge 19, 3), (57, .lload_n 2, 1), (58, .aload_n 0, 1), (59, .getfield 13, 3), (62, .iconst 4, 1), (63, .iaload, 1), (64, .i2l, 1), (65, .lmul, 1), (66, .lstore_n 2, 1), (67, .iinc 4 1, 3), (70, .goto (-20), 3), (73, .lload_n 2, 1), (74, .lreturn, 1)]
set_option maxRecDepth 100000 in
theorem kX10_chance : tX10_chance.all (fun q => decide (decode cX10_chance q.1 = .ok q.2)) = true := by decide +kernel
def tX10_likely : List (Nat × Instr × Nat) := [(0, .aload_n 0, 1), (1, .iconst 0, 1), (2, .putfield 127, 3), (5, .iload_n 1, 1), (6, .iconst 1, 1), (7, .bipush 16, 2), (9, .invokestatic 251, 3), (12, .ifCond .eq 12, 3), (15, .iload_n 2, 1), (16, .iconst 0, 1), (17, .iconst 1, 1), (18, .invokestatic 251, 3), (21, .ifCond .ne 7, 3), (24, .ldc2_w 402, 3), (27, .lreturn, 1), (28, .lconst 0, 1), (29, .lstore_n 3, 1), (30, .lconst 1, 1), (31, .lstore 5, 2), (33, .iconst 0, 1), (34, .istore 7, 2), (36, .iload 7, 2), (38, .bipush 16, 2), (40, .if_icmp .ge 21, 3), (43, .lload 5, 2), (45, .aload_n 0, 1), (46, .getfield 13, 3), (49, .iconst 4, 1), (50, .iaload, 1), (51, .i2l, 1), (52, .lmul, 1), (53, .lstore 5, 2), (55, .iinc 7 1, 3), (58, .goto (-22), 3), (61, .iconst 1, 1), (62, .istore 7, 2), (64, .iconst 2, 1), (65, .iload 7, 2), (67, .imul, 1), (68, .iload_n 1, 1), (69, .if_icmp .gt 18, 3), (72, .lload_n 3, 1), (73, .aload_n 0, 1), (74, .iload 7, 2), (76, .invokevirtual 404, 3), (79, .ladd, 1), (80, .lstore_n 3, 1), (81, .iinc 7 1, 3), (84, .goto (-20), 3), (87, .iload_n 2, 1), (88, .ifCond .ne 7, 3), (91, .lload_n 3, 1), (92, .goto 5, 3), (95, .lload 5, 2), (97, .lload_n 3, 1), (98, .lload 5, 2), (100, .invokestatic 407, 3), (103, .ldiv, 1), (104, .lreturn, 1)]
set_option maxRecDepth 100000 in
theorem kX10_likely : tX10_likely.all (fun q => decide (decode cX10_likely q.1 = .ok q.2)) = true := by decide +kernel
def tX10_mean : List (Nat × Instr × Nat) := [(0, .aload_n 0, 1), (1, .iconst 0, 1), (2, .putfield 127, 3), (5, .iload_n 1, 1), (6, .iconst 2, 1), (7, .bipush 16, 2), (9, .invokestatic 251, 3), (12, .ifCond .eq 12, 3), (15, .iload_n 2, 1), (16, .iconst 0, 1), (17, .iconst 1, 1), (18, .invokestatic 251, 3), (21, .ifCond .ne 7, 3), (24, .ldc2_w 402, 3), (27, .lreturn, 1), (28, .lconst 0, 1), (29, .lstore_n 3, 1), (30, .lconst 0, 1), (31, .lstore 5, 2), (33, .iconst 1, 1), (34, .istore 7, 2), (36, .iconst 2, 1), (37, .iload 7, 2), (39, .imul, 1), (40, .iload_n 1, 1), (41, .if_icmp .gt 37, 3), (44, .lload_n 3, 1), (45, .ldc2_w 396, 3), (48, .iload 7, 2), (50, .i2l, 1), (51, .lmul, 1), (52, .aload_n 0, 1), (53, .iload 7, 2), (55, .invokevirtual 404, 3), (58, .lmul, 1), (59, .ladd, 1), (60, .lstore_n 3, 1), (61, .lload 5, 2), (63, .aload_n 0, 1), (64, .iload 7, 2), (66, .invokevirtual 404, 3), (69, .ladd, 1), (70, .lstore 5, 2), (72, .iinc 7 1, 3), (75, .goto (-39), 3), (78, .iload_n 2, 1), (79, .ifCond .ne 7, 3), (82, .lload_n 3, 1), (83, .goto 5, 3), (86, .lload 5, 2), (88, .lload_n 3, 1), (89, .lload 5, 2), (91, .invokestatic 407, 3), (94, .ldiv, 1), (95, .lreturn, 1)]
set_option maxRecDepth 100000 in
theorem kX10_mean : tX10_mean.all (fun q => decide (decode cX10_mean q.1 = .ok q.2)) = true := by decide +kernel
def tX10_came : List (Nat × Instr × Nat) := [(0, .aload_n 0, 1), (1, .iconst 0, 1), (2, .putfield 127, 3), (5, .iload_n 1, 1), (6, .iconst 1, 1), (7, .bipush 15, 2), (9, .invokestatic 251, 3), (12, .ifCond .eq 10, 3), (15, .iload_n 1, 1), (16, .invokestatic 398, 3), (19, .goto 6, 3), (22, .ldc2_w 402, 3), (25, .lreturn, 1)]
set_option maxRecDepth 100000 in
theorem kX10_came : tX10_came.all (fun q => decide (decode cX10_came q.1 = .ok q.2)) = true := by decide +kernel
def tX10_draws : List (Nat × Instr × Nat) := [(0, .aload_n 0, 1), (1, .aload_n 0, 1), (2, .getfield 411, 3), (5, .ldc2_w 414, 3), (8, .lmul, 1), (9, .ldc2_w 416, 3), (12, .ladd, 1), (13, .ldc2_w 418, 3), (16, .lrem, 1), (17, .putfield 411, 3), (20, .aload_n 0, 1), (21, .getfield 411, 3), (24, .ldc2_w 420, 3), (27, .ldiv, 1), (28, .iload_n 1, 1), (29, .i2l, 1), (30, .lrem, 1), (31, .l2i, 1), (32, .ireturn, 1)]
set_option maxRecDepth 100000 in
theorem kX10_draws : tX10_draws.all (fun q => decide (decode cX10_draws q.1 = .ok q.2)) = true := by decide +kernel
def tX10_lots : List (Nat × Instr × Nat) := [(0, .aload_n 0, 1), (1, .iconst 0, 1), (2, .putfield 127, 3), (5, .iload_n 1, 1), (6, .iconst 0, 1), (7, .sipush 9999, 3), (10, .invokestatic 251, 3), (13, .ifCond .eq 22, 3), (16, .iload_n 2, 1), (17, .iconst 1, 1), (18, .bipush 50, 2), (20, .invokestatic 251, 3), (23, .ifCond .eq 12, 3), (26, .iload_n 3, 1), (27, .iconst 0, 1), (28, .iconst 4, 1), (29, .invokestatic 251, 3), (32, .ifCond .ne 5, 3), (35, .iconst (-1), 1), (36, .ireturn, 1), (37, .aload_n 0, 1), (38, .iload_n 1, 1), (39, .i2l, 1), (40, .putfield 411, 3), (43, .iconst 0, 1), (44, .istore 4, 2), (46, .iconst 0, 1), (47, .istore 5, 2), (49, .iconst 0, 1), (50, .istore 6, 2), (52, .iconst 0, 1), (53, .istore 7, 2), (55, .iconst 0, 1), (56, .istore 8, 2), (58, .iconst 0, 1), (59, .istore 9, 2), (61, .iload 9, 2), (63, .iload_n 2, 1), (64, .if_icmp .ge 188, 3), (67, .aload_n 0, 1), (68, .invokevirtual 335, 3), (71, .iconst 0, 1), (72, .istore 10, 2), (74, .iload 10, 2), (76, .sipush 1440, 3), (79, .if_icmp .ge 87, 3), (82, .aload_n 0, 1), (83, .getfield 319, 3), (86, .sipush 300, 3), (89, .if_icmp .ge 53, 3), (92, .aload_n 0, 1), (93, .sipush 1000, 3), (96, .invokevirtual 422, 3), (99, .aload_n 0, 1), (100, .getfield 13, 3), (103, .iconst 5, 1), (104, .iaload, 1), (105, .if_icmp .ge 37, 3), (108, .aload_n 0, 1), (109, .aload_n 0, 1), (110, .aload_n 0, 1), (111, .getfield 13, 3), (114, .iconst 4, 1), (115, .iaload, 1), (116, .invokevirtual 422, 3), (119, .aload_n 0, 1), (120, .getfield 13, 3), (123, .iconst 3, 1), (124, .iaload, 1), (125, .if_icmp .ge 7, 3), (128, .iconst 0, 1), (129, .goto 4, 3), (132, .iconst 1, 1), (133, .iload 10, 2), (135, .bipush 70, 2), (137, .iconst 0, 1), (138, .iconst 2, 1), (139, .invokevirtual 338, 3), (142, .aload_n 0, 1), (143, .iload 10, 2), (145, .invokevirtual 354, 3), (148, .ifCond .eq 12, 3), (151, .aload_n 0, 1), (152, .iload 10, 2), (154, .invokevirtual 357, 3), (157, .goto (-15), 3), (160, .iinc 10 1, 3), (163, .goto (-89), 3), (166, .iload 4, 2), (168, .aload_n 0, 1), (169, .getfield 322, 3), (172, .iadd, 1), (173, .istore 4, 2), (175, .iload 5, 2), (177, .aload_n 0, 1), (178, .getfield 319, 3), (181, .iadd, 1), (182, .istore 5, 2), (184, .iconst 0, 1), (185, .istore 10, 2), (187, .iload 10, 2), (189, .aload_n 0, 1), (190, .getfield 319, 3), (193, .if_icmp .ge 53, 3), (196, .iload 6, 2), (198, .aload_n 0, 1), (199, .iload 10, 2), (201, .invokevirtual 366, 3), (204, .iadd, 1), (205, .istore 6, 2), (207, .iload 7, 2), (209, .aload_n 0, 1), (210, .getfield 99, 3), (213, .iload 10, 2), (215, .iaload, 1), (216, .ifCond .ge 7, 3), (219, .iconst 1, 1), (220, .goto 4, 3), (223, .iconst 0, 1), (224, .iadd, 1), (225, .istore 7, 2), (227, .iload 8, 2), (229, .aload_n 0, 1), (230, .iload 10, 2), (232, .invokevirtual 366, 3), (235, .invokestatic 272, 3), (238, .istore 8, 2), (240, .iinc 10 1, 3), (243, .goto (-56), 3), (246, .iinc 9 1, 3), (249, .goto (-188), 3), (252, .iload_n 3, 1), (253, .ifCond .ne 8, 3), (256, .iload 4, 2), (258, .goto 35, 3), (261, .iload_n 3, 1), (262, .iconst 1, 1), (263, .if_icmp .ne 8, 3), (266, .iload 5, 2), (268, .goto 25, 3), (271, .iload_n 3, 1), (272, .iconst 2, 1), (273, .if_icmp .ne 8, 3), (276, .iload 6, 2), (278, .goto 15, 3), (281, .iload_n 3, 1), (282, .iconst 3, 1), (283, .if_icmp .ne 8, 3), (286, .iload 7, 2), (288, .goto 5, 3), (291, .iload 8, 2), (293, .ireturn, 1)]
set_option maxRecDepth 100000 in
theorem kX10_lots : tX10_lots.all (fun q => decide (decode cX10_lots q.1 = .ok q.2)) = true := by decide +kernel
def tX10_best : List (Nat × Instr × Nat) := [(0, .aload_n 0, 1), (1, .iconst 0, 1), (2, .putfield 127, 3), (5, .aload_n 0, 1), (6, .getfield 13, 3), (9, .bipush 8, 2), (11, .iaload, 1), (12, .istore_n 1, 1), (13, .iconst (-1), 1), (14, .istore_n 2, 1), (15, .iconst 0, 1), (16, .istore_n 3, 1), (17, .iconst 0, 1), (18, .istore 4, 2), (20, .iload 4, 2), (22, .aload_n 0, 1), (23, .getfield 13, 3), (26, .bipush 6, 2), (28, .iaload, 1), (29, .if_icmp .ge 49, 3), (32, .aload_n 0, 1), (33, .getfield 13, 3), (36, .bipush 8, 2), (38, .iload 4, 2), (40, .iastore, 1), (41, .aload_n 0, 1), (42, .iconst (-1), 1), (43, .invokevirtual 369, 3), (46, .aload_n 0, 1), (47, .iconst (-1), 1), (48, .invokevirtual 372, 3), (51, .istore 5, 2), (53, .iload_n 2, 1), (54, .ifCond .lt 12, 3), (57, .iload 5, 2), (59, .iload_n 3, 1), (60, .if_icmp .lt 6, 3), (63, .goto 9, 3), (66, .iload 4, 2), (68, .istore_n 2, 1), (69, .iload 5, 2), (71, .istore_n 3, 1), (72, .iinc 4 1, 3), (75, .goto (-55), 3), (78, .aload_n 0, 1), (79, .getfield 13, 3), (82, .bipush 8, 2), (84, .iload_n 1, 1), (85, .iastore, 1), (86, .iload_n 2, 1), (87, .ireturn, 1)]
set_option maxRecDepth 100000 in
theorem kX10_best : tX10_best.all (fun q => decide (decode cX10_best q.1 = .ok q.2)) = true := by decide +kernel
def tX10_mark : List (Nat × Instr × Nat) := [(0, .aload_n 0, 1), (1, .iconst 0, 1), (2, .putfield 127, 3), (5, .iload_n 1, 1), (6, .iconst 0, 1), (7, .iconst 3, 1), (8, .invokestatic 251, 3), (11, .ifCond .eq 16, 3), (14, .iload_n 2, 1), (15, .ifCond .eq 14, 3), (18, .aload_n 0, 1), (19, .getfield 120, 3), (22, .iload_n 1, 1), (23, .baload, 1), (24, .ifCond .ne 5, 3), (27, .iconst 0, 1), (28, .ireturn, 1), (29, .aload_n 0, 1), (30, .getfield 120, 3), (33, .iload_n 1, 1), (34, .iconst 1, 1), (35, .bastore, 1), (36, .iload_n 2, 1), (37, .ifCond .eq 14, 3), (40, .aload_n 0, 1), (41, .iconst 2, 1), (42, .iload_n 1, 1), (43, .iadd, 1), (44, .iconst 0, 1), (45, .invokevirtual 309, 3), (48, .goto 11, 3), (51, .aload_n 0, 1), (52, .iconst 0, 1), (53, .iconst 2, 1), (54, .iload_n 1, 1), (55, .iadd, 1), (56, .invokevirtual 309, 3), (59, .iconst 1, 1), (60, .ireturn, 1)]
set_option maxRecDepth 100000 in
theorem kX10_mark : tX10_mark.all (fun q => decide (decode cX10_mark q.1 = .ok q.2)) = true := by decide +kernel
def tX10_count : List (Nat × Instr × Nat) := [(0, .aload_n 0, 1), (1, .iconst 0, 1), (2, .putfield 127, 3), (5, .iload_n 1, 1), (6, .iconst 0, 1), (7, .bipush 8, 2), (9, .invokestatic 251, 3), (12, .ifCond .ne 5, 3), (15, .iconst (-1), 1), (16, .ireturn, 1), (17, .iload_n 1, 1), (18, .iconst 3, 1), (19, .if_icmp .ge 40, 3), (22, .iload_n 1, 1), (23, .ifCond .ne 13, 3), (26, .aload_n 0, 1), (27, .getfield 13, 3), (30, .bipush 7, 2), (32, .iaload, 1), (33, .goto 25, 3), (36, .iload_n 1, 1), (37, .iconst 1, 1), (38, .if_icmp .ne 13, 3), (41, .aload_n 0, 1), (42, .getfield 13, 3), (45, .bipush 6, 2), (47, .iaload, 1), (48, .goto 10, 3), (51, .aload_n 0, 1), (52, .getfield 13, 3), (55, .bipush 8, 2), (57, .iaload, 1), (58, .ireturn, 1), (59, .iload_n 1, 1), (60, .iconst 3, 1), (61, .if_icmp .ne 12, 3), (64, .aload_n 0, 1), (65, .getfield 13, 3), (68, .iconst 0, 1), (69, .iaload, 1), (70, .goto 65, 3), (73, .iload_n 1, 1), (74, .iconst 4, 1), (75, .if_icmp .ne 12, 3), (78, .aload_n 0, 1), (79, .getfield 13, 3), (82, .iconst 1, 1), (83, .iaload, 1), (84, .goto 51, 3), (87, .iload_n 1, 1), (88, .iconst 5, 1), (89, .if_icmp .ne 12, 3), (92, .aload_n 0, 1), (93, .getfield 13, 3), (96, .iconst 2, 1), (97, .iaload, 1), (98, .goto 37, 3), (101, .iload_n 1, 1), (102, .bipush 6, 2), (104, .if_icmp .ne 11, 3), (107, .aload_n 0, 1), (108, .iconst 0, 1), (109, .invokevirtual 287, 3), (112, .goto 23, 3), (115, .iload_n 1, 1), (116, .bipush 7, 2), (118, .if_icmp .ne 13, 3), (121, .aload_n 0, 1), (122, .getfield 13, 3), (125, .bipush 9, 2), (127, .iaload, 1), (128, .goto 7, 3), (131, .aload_n 0, 1), (132, .getfield 133, 3), (135, .ireturn, 1)]
set_option maxRecDepth 100000 in
theorem kX10_count : tX10_count.all (fun q => decide (decode cX10_count q.1 = .ok q.2)) = true := by decide +kernel
end
section
theorem am_wl {ws src : List Cond} {is : List Nat} {g : Cond → Bool} (e : ws = is.filterMap (fun i => src[i]?)) (hg : ws.all g = true) {x : Cond} (h : x ∈ ws) : x ∈ src.filter g := by
  have h2 := List.all_eq_true.mp hg x h
  rw [e] at h
  obtain ⟨i, -, hi⟩ := List.mem_filterMap.mp h
  exact List.mem_filter.mpr ⟨List.mem_of_getElem? hi, h2⟩
set_option maxRecDepth 100000 in
theorem wd_3 : Cond.code Lib.objectInit ⟨#[0xb1]⟩ 1 none ∈ am_big := in_big 122 rfl rfl
set_option maxRecDepth 100000 in
theorem wd_7 : Cond.code Lib.Math.max.name Lib.Math.max.code 2 (some .int) ∈ am_big := in_big 137 rfl rfl
set_option maxRecDepth 100000 in
theorem wd_75 : Cond.code Lib.Math.min.name Lib.Math.min.code 2 (some .int) ∈ am_big := in_big 668 rfl rfl
set_option maxRecDepth 100000 in
theorem wd_785 : Cond.code yX0_init cX0_init 2 none ∈ am_big := in_big 356 rfl rfl
set_option maxRecDepth 100000 in
theorem wd_786 : Cond.code yX0_empty cX0_empty 1 none ∈ am_big := in_big 860 rfl rfl
set_option maxRecDepth 100000 in
theorem wd_787 : Cond.code yX0_join cX0_join 3 none ∈ am_big := in_big 891 rfl rfl
set_option maxRecDepth 100000 in
theorem wd_788 : Cond.code yX0_leaveFirst cX0_leaveFirst 3 none ∈ am_big := in_big 874 rfl rfl
set_option maxRecDepth 100000 in
theorem wd_789 : Cond.code yX0_leave cX0_leave 5 none ∈ am_big := in_big 868 rfl rfl
set_option maxRecDepth 100000 in
theorem wd_790 : Cond.code yX0_size cX0_size 1 (some .int) ∈ am_big := in_big 899 rfl rfl
set_option maxRecDepth 100000 in
theorem wd_791 : Cond.code yX0_countWithGuests cX0_countWithGuests 1 (some .int) ∈ am_big := in_big 911 rfl rfl
set_option maxRecDepth 100000 in
theorem wd_792 : Cond.code yX0_loadWithGuests cX0_loadWithGuests 1 (some .int) ∈ am_big := in_big 915 rfl rfl
set_option maxRecDepth 100000 in
theorem wd_793 : Cond.code yX1_init cX1_init 1 none ∈ am_big := in_big 448 rfl rfl
set_option maxRecDepth 100000 in
theorem wd_794 : Cond.code yX1_weigh cX1_weigh 7 none ∈ am_big := in_big 1045 rfl rfl
set_option maxRecDepth 100000 in
theorem wd_795 : Cond.code yX1_seat cX1_seat 4 none ∈ am_big := in_big 1050 rfl rfl
set_option maxRecDepth 100000 in
theorem wd_796 : Cond.code yX1_findCheapest cX1_findCheapest 3 none ∈ am_big := in_big 1060 rfl rfl
set_option maxRecDepth 100000 in
theorem wd_797 : Cond.code yX1_findResting cX1_findResting 4 none ∈ am_big := in_big 1064 rfl rfl
set_option maxRecDepth 100000 in
theorem wd_798 : Cond.code yX1_isAtRest cX1_isAtRest 5 (some .boolean) ∈ am_big := in_big 1068 rfl rfl
set_option maxRecDepth 100000 in
theorem wd_799 : Cond.code yX2_init cX2_init 3 none ∈ am_big := in_big 133 rfl rfl
set_option maxRecDepth 100000 in
theorem wd_800 : Cond.code yX2_add cX2_add 6 none ∈ am_big := in_big 803 rfl rfl
set_option maxRecDepth 100000 in
theorem wd_801 : Cond.code yX2_timeAt cX2_timeAt 2 (some .int) ∈ am_big := in_big 882 rfl rfl
set_option maxRecDepth 100000 in
theorem wd_802 : Cond.code yX3_init cX3_init 4 none ∈ am_big := in_big 349 rfl rfl
set_option maxRecDepth 100000 in
theorem wd_803 : Cond.code yX3_begin cX3_begin 6 none ∈ am_big := in_big 855 rfl rfl
set_option maxRecDepth 100000 in
theorem wd_804 : Cond.code yX3_letGoHome cX3_letGoHome 3 none ∈ am_big := in_big 1037 rfl rfl
set_option maxRecDepth 100000 in
theorem wd_805 : Cond.code yX3_run cX3_run 4 none ∈ am_big := in_big 864 rfl rfl
set_option maxRecDepth 100000 in
theorem wd_806 : Cond.code yX3_soonest cX3_soonest 6 (some .int) ∈ am_big := in_big 943 rfl rfl
set_option maxRecDepth 100000 in
theorem wd_807 : Cond.code yX3_firstHolding cX3_firstHolding 4 (some .int) ∈ am_big := in_big 951 rfl rfl
set_option maxRecDepth 100000 in
theorem wd_808 : Cond.code yX3_come cX3_come 3 none ∈ am_big := in_big 878 rfl rfl
set_option maxRecDepth 100000 in
theorem wd_809 : Cond.code yX3_bankOf cX3_bankOf 2 (some (.object "EvenFerry$Bank")) ∈ am_big := in_big 887 rfl rfl
set_option maxRecDepth 100000 in
theorem wd_810 : Cond.code yX3_wouldRing cX3_wouldRing 2 (some .boolean) ∈ am_big := in_big 895 rfl rfl
set_option maxRecDepth 100000 in
theorem wd_811 : Cond.code yX3_wouldRingWith cX3_wouldRingWith 6 (some .boolean) ∈ am_big := in_big 1021 rfl rfl
set_option maxRecDepth 100000 in
theorem wd_812 : Cond.code yX3_freeBoat cX3_freeBoat 3 (some .int) ∈ am_big := in_big 903 rfl rfl
set_option maxRecDepth 100000 in
theorem wd_813 : Cond.code yX3_gatherFacts cX3_gatherFacts 2 none ∈ am_big := in_big 907 rfl rfl
set_option maxRecDepth 100000 in
theorem wd_814 : Cond.code yX3_earliest cX3_earliest 5 (some .int) ∈ am_big := in_big 919 rfl rfl
set_option maxRecDepth 100000 in
theorem wd_815 : Cond.code yX3_goOver cX3_goOver 2 none ∈ am_big := in_big 934 rfl rfl
set_option maxRecDepth 100000 in
theorem wd_816 : Cond.code yX3_board cX3_board 6 (some .int) ∈ am_big := in_big 938 rfl rfl
set_option maxRecDepth 100000 in
theorem wd_817 : Cond.code yX3_misjudged cX3_misjudged 7 (some .int) ∈ am_big := in_big 1104 rfl rfl
set_option maxRecDepth 100000 in
theorem wd_818 : Cond.code yX3_isWaitingBehind cX3_isWaitingBehind 3 (some .boolean) ∈ am_big := in_big 1003 rfl rfl
set_option maxRecDepth 100000 in
theorem wd_819 : Cond.code yX3_waitOf cX3_waitOf 2 (some .int) ∈ am_big := in_big 963 rfl rfl
set_option maxRecDepth 100000 in
theorem wd_820 : Cond.code yX3_longestWait cX3_longestWait 3 (some .int) ∈ am_big := in_big 980 rfl rfl
set_option maxRecDepth 100000 in
theorem wd_821 : Cond.code yX3_costOf cX3_costOf 2 (some .int) ∈ am_big := in_big 975 rfl rfl
set_option maxRecDepth 100000 in
theorem wd_822 : Cond.code yX3_costWithout cX3_costWithout 4 (some .int) ∈ am_big := in_big 971 rfl rfl
set_option maxRecDepth 100000 in
theorem wd_823 : Cond.code yX4_init cX4_init 1 none ∈ am_big := in_big 482 rfl rfl
set_option maxRecDepth 100000 in
theorem wd_824 : Cond.code yX4_isKnown cX4_isKnown 3 (some .boolean) ∈ am_big := in_big 1143 rfl rfl
set_option maxRecDepth 100000 in
theorem wd_825 : Cond.code yX4_go cX4_go 6 none ∈ am_big := in_big 1147 rfl rfl
set_option maxRecDepth 100000 in
theorem wd_826 : Cond.code yX4_drawCrowd cX4_drawCrowd 4 none ∈ am_big := in_big 1151 rfl rfl
set_option maxRecDepth 100000 in
theorem wd_827 : Cond.code yX4_draw cX4_draw 2 (some .int) ∈ am_big := in_big 1155 rfl rfl
set_option maxRecDepth 100000 in
theorem wd_828 : Cond.code yX4_addUp cX4_addUp 4 none ∈ am_big := in_big 1166 rfl rfl
set_option maxRecDepth 100000 in
theorem wd_829 : Cond.code yX5_init cX5_init 3 none ∈ am_big := in_big 285 rfl rfl
set_option maxRecDepth 100000 in
theorem wd_830 : Cond.code yX5_read cX5_read 3 (some .int) ∈ am_big := in_big 711 rfl rfl
set_option maxRecDepth 100000 in
theorem wd_831 : Cond.code yX5_kind cX5_kind 1 (some .int) ∈ am_big := in_big 715 rfl rfl
set_option maxRecDepth 100000 in
theorem wd_832 : Cond.code yX5_step cX5_step 1 none ∈ am_big := in_big 731 rfl rfl
set_option maxRecDepth 100000 in
theorem wd_833 : Cond.code yX5_wrong cX5_wrong 2 none ∈ am_big := in_big 727 rfl rfl
set_option maxRecDepth 100000 in
theorem wd_834 : Cond.code yX5_expect cX5_expect 2 none ∈ am_big := in_big 746 rfl rfl
set_option maxRecDepth 100000 in
theorem wd_835 : Cond.code yX5_number cX5_number 4 (some .int) ∈ am_big := in_big 735 rfl rfl
set_option maxRecDepth 100000 in
theorem wd_836 : Cond.code yX5_line cX5_line 2 none ∈ am_big := in_big 719 rfl rfl
set_option maxRecDepth 100000 in
theorem wd_837 : Cond.code yX5_lineToldOnce cX5_lineToldOnce 3 none ∈ am_big := in_big 723 rfl rfl
set_option maxRecDepth 100000 in
theorem wd_838 : Cond.code yX5_personLine cX5_personLine 6 none ∈ am_big := in_big 775 rfl rfl
set_option maxRecDepth 100000 in
theorem wd_839 : Cond.code yX5_name cX5_name 5 none ∈ am_big := in_big 779 rfl rfl
set_option maxRecDepth 100000 in
theorem wd_840 : Cond.code yX5_sideWord cX5_sideWord 2 (some .int) ∈ am_big := in_big 788 rfl rfl
set_option maxRecDepth 100000 in
theorem wd_841 : Cond.code yX5_kindWord cX5_kindWord 2 (some .int) ∈ am_big := in_big 792 rfl rfl
set_option maxRecDepth 100000 in
theorem wd_842 : Cond.code yX5_lawLine cX5_lawLine 1 none ∈ am_big := in_big 750 rfl rfl
set_option maxRecDepth 100000 in
theorem wd_843 : Cond.code yX5_write cX5_write 2 none ∈ am_big := in_big 762 rfl rfl
set_option maxRecDepth 100000 in
theorem wd_844 : Cond.code yX5_chain cX5_chain 6 none ∈ am_big := in_big 754 rfl rfl
set_option maxRecDepth 100000 in
theorem wd_845 : Cond.code yX5_levelOf cX5_levelOf 1 (some .int) ∈ am_big := in_big 766 rfl rfl
set_option maxRecDepth 100000 in
theorem wd_846 : Cond.code yX5_part cX5_part 5 none ∈ am_big := in_big 758 rfl rfl
set_option maxRecDepth 100000 in
theorem wd_847 : Cond.code yX6_init cX6_init 1 none ∈ am_big := in_big 127 rfl rfl
set_option maxRecDepth 100000 in
theorem wd_848 : Cond.code yX6_addPerson cX6_addPerson 7 none ∈ am_big := in_big 796 rfl rfl
set_option maxRecDepth 100000 in
theorem wd_849 : Cond.code yX6_countOf cX6_countOf 1 (some .int) ∈ am_big := in_big 799 rfl rfl
set_option maxRecDepth 100000 in
theorem wd_850 : Cond.code yX6_endLaw cX6_endLaw 2 none ∈ am_big := in_big 770 rfl rfl
set_option maxRecDepth 100000 in
theorem wd_851 : Cond.code yX6_isTimed cX6_isTimed 2 (some .boolean) ∈ am_big := in_big 947 rfl rfl
set_option maxRecDepth 100000 in
theorem wd_852 : Cond.code yX6_lawValue cX6_lawValue 9 (some .int) ∈ am_big := in_big 924 rfl rfl
set_option maxRecDepth 100000 in
theorem wd_853 : Cond.code yX6_joined cX6_joined 3 (some .int) ∈ am_big := in_big 930 rfl rfl
set_option maxRecDepth 100000 in
theorem wd_854 : Cond.code yX7_init cX7_init 2 none ∈ am_big := in_big 318 rfl rfl
set_option maxRecDepth 100000 in
theorem wd_855 : Cond.code yX7_start cX7_start 2 none ∈ am_big := in_big 825 rfl rfl
set_option maxRecDepth 100000 in
theorem wd_856 : Cond.code yX7_take cX7_take 3 none ∈ am_big := in_big 1181 rfl rfl
set_option maxRecDepth 100000 in
theorem wd_857 : Cond.code yX7_addTold cX7_addTold 3 (some .boolean) ∈ am_big := in_big 1089 rfl rfl
set_option maxRecDepth 100000 in
theorem wd_858 : Cond.code yX7_isTold cX7_isTold 3 (some .boolean) ∈ am_big := in_big 1108 rfl rfl
set_option maxRecDepth 100000 in
theorem wd_859 : Cond.code yX8_init cX8_init 1 none ∈ am_big := in_big 258 rfl rfl
set_option maxRecDepth 100000 in
theorem wd_860 : Cond.code yX8_append cX8_append 6 none ∈ am_big := in_big 558 rfl rfl
set_option maxRecDepth 100000 in
theorem wd_861 : Cond.code yX8_cut cX8_cut 4 none ∈ am_big := in_big 566 rfl rfl
set_option maxRecDepth 100000 in
theorem wd_862 : Cond.code yX8_add cX8_add 3 none ∈ am_big := in_big 638 rfl rfl
set_option maxRecDepth 100000 in
theorem wd_863 : Cond.code yX8_signAt cX8_signAt 2 (some .char) ∈ am_big := in_big 570 rfl rfl
set_option maxRecDepth 100000 in
theorem wd_864 : Cond.code yX8_isLetter cX8_isLetter 1 (some .boolean) ∈ am_big := in_big 573 rfl rfl
set_option maxRecDepth 100000 in
theorem wd_865 : Cond.code yX8_isDigit cX8_isDigit 1 (some .boolean) ∈ am_big := in_big 644 rfl rfl
set_option maxRecDepth 100000 in
theorem wd_866 : Cond.code yX8_endOfWord cX8_endOfWord 3 (some .int) ∈ am_big := in_big 577 rfl rfl
set_option maxRecDepth 100000 in
theorem wd_867 : Cond.code yX8_endOfNumber cX8_endOfNumber 3 (some .int) ∈ am_big := in_big 648 rfl rfl
set_option maxRecDepth 100000 in
theorem wd_868 : Cond.code yX8_wordKind cX8_wordKind 4 (some .int) ∈ am_big := in_big 581 rfl rfl
set_option maxRecDepth 100000 in
theorem wd_869 : Cond.code yX8_isWord cX8_isWord 7 (some .boolean) ∈ am_big := in_big 596 rfl rfl
set_option maxRecDepth 100000 in
theorem wd_870 : Cond.code yX8_nameKey cX8_nameKey 6 (some .long) ∈ am_big := in_big 783 rfl rfl
set_option maxRecDepth 100000 in
theorem wd_871 : Cond.code yX8_numberValue cX8_numberValue 5 (some .int) ∈ am_big := in_big 739 rfl rfl
set_option maxRecDepth 100000 in
theorem wd_872 : Cond.code yX9_init cX9_init 3 none ∈ am_big := in_big 119 rfl rfl
set_option maxRecDepth 100000 in
theorem wd_874 : Cond.code yX9_feed cX9_feed 7 (some .int) ∈ am_big := in_big 554 rfl rfl
set_option maxRecDepth 100000 in
theorem wd_875 : Cond.code yX9_river cX9_river 2 (some .int) ∈ am_big := in_big 562 rfl rfl
set_option maxRecDepth 100000 in
theorem wd_876 : Cond.code yX9_person cX9_person 4 (some .int) ∈ am_big := in_big 834 rfl rfl
set_option maxRecDepth 100000 in
theorem wd_877 : Cond.code yX9_use cX9_use 2 (some .boolean) ∈ am_big := in_big 843 rfl rfl
set_option maxRecDepth 100000 in
theorem wd_878 : Cond.code yX9_rings cX9_rings 1 (some .int) ∈ am_big := in_big 847 rfl rfl
set_option maxRecDepth 100000 in
theorem wd_879 : Cond.code yX9_ring cX9_ring 3 (some .int) ∈ am_big := in_big 955 rfl rfl
set_option maxRecDepth 100000 in
theorem wd_880 : Cond.code yX9_waits cX9_waits 3 (some .int) ∈ am_big := in_big 959 rfl rfl
set_option maxRecDepth 100000 in
theorem wd_881 : Cond.code yX9_all cX9_all 2 (some .int) ∈ am_big := in_big 967 rfl rfl
set_option maxRecDepth 100000 in
theorem wd_882 : Cond.code yX9_bank cX9_bank 4 (some .int) ∈ am_big := in_big 988 rfl rfl
set_option maxRecDepth 100000 in
theorem wd_883 : Cond.code yX9_send cX9_send 5 (some .int) ∈ am_big := in_big 1011 rfl rfl
set_option maxRecDepth 100000 in
theorem wd_884 : Cond.code yX9_turn cX9_turn 3 (some .int) ∈ am_big := in_big 1193 rfl rfl
set_option maxRecDepth 100000 in
theorem wd_885 : Cond.code yX9_asks cX9_asks 6 (some .int) ∈ am_big := in_big 1025 rfl rfl
set_option maxRecDepth 100000 in
theorem wd_886 : Cond.code yX9_choice cX9_choice 2 (some .int) ∈ am_big := in_big 1041 rfl rfl
set_option maxRecDepth 100000 in
theorem wd_887 : Cond.code yX9_chosen cX9_chosen 3 (some .int) ∈ am_big := in_big 1072 rfl rfl
set_option maxRecDepth 100000 in
theorem wd_888 : Cond.code yX9_rests cX9_rests 1 (some .int) ∈ am_big := in_big 1077 rfl rfl
set_option maxRecDepth 100000 in
theorem wd_889 : Cond.code yX9_rest cX9_rest 2 (some .int) ∈ am_big := in_big 1081 rfl rfl
set_option maxRecDepth 100000 in
theorem wd_890 : Cond.code yX9_tell cX9_tell 2 (some .int) ∈ am_big := in_big 1085 rfl rfl
set_option maxRecDepth 100000 in
theorem wd_891 : Cond.code yX9_clear cX9_clear 1 (some .boolean) ∈ am_big := in_big 1096 rfl rfl
set_option maxRecDepth 100000 in
theorem wd_892 : Cond.code yX9_judged cX9_judged 3 (some .int) ∈ am_big := in_big 1100 rfl rfl
set_option maxRecDepth 100000 in
theorem wd_893 : Cond.code yX9_likely cX9_likely 7 (some .long) ∈ am_big := in_big 1112 rfl rfl
set_option maxRecDepth 100000 in
theorem wd_894 : Cond.code yX9_mean cX9_mean 7 (some .long) ∈ am_big := in_big 1131 rfl rfl
set_option maxRecDepth 100000 in
theorem wd_895 : Cond.code yX9_came cX9_came 2 (some .long) ∈ am_big := in_big 1135 rfl rfl
set_option maxRecDepth 100000 in
theorem wd_896 : Cond.code yX9_lots cX9_lots 4 (some .int) ∈ am_big := in_big 1139 rfl rfl
set_option maxRecDepth 100000 in
theorem wd_897 : Cond.code yX9_best cX9_best 5 (some .int) ∈ am_big := in_big 1173 rfl rfl
set_option maxRecDepth 100000 in
theorem wd_898 : Cond.code yX9_mark cX9_mark 3 (some .boolean) ∈ am_big := in_big 1177 rfl rfl
set_option maxRecDepth 100000 in
theorem wd_899 : Cond.code yX9_count cX9_count 3 (some .int) ∈ am_big := in_big 1185 rfl rfl
set_option maxRecDepth 100000 in
theorem wd_900 : Cond.code yX9_get cX9_get 2 (some .int) ∈ am_big := in_big 742 rfl rfl
set_option maxRecDepth 100000 in
theorem wd_901 : Cond.code yX9_set cX9_set 3 none ∈ am_big := in_big 641 rfl rfl
set_option maxRecDepth 100000 in
theorem wd_902 : Cond.code yX9_isMinute cX9_isMinute 1 (some .boolean) ∈ am_big := in_big 991 rfl rfl
set_option maxRecDepth 100000 in
theorem wd_903 : Cond.code yX9_isPerson cX9_isPerson 2 (some .boolean) ∈ am_big := in_big 838 rfl rfl
set_option maxRecDepth 100000 in
theorem wd_904 : Cond.code yX9_forget cX9_forget 1 none ∈ am_big := in_big 829 rfl rfl
set_option maxRecDepth 100000 in
theorem wd_905 : Cond.code yX9_knowDay cX9_knowDay 2 none ∈ am_big := in_big 851 rfl rfl
set_option maxRecDepth 100000 in
theorem wd_906 : Cond.code yX9_beginTrial cX9_beginTrial 3 none ∈ am_big := in_big 1015 rfl rfl
set_option maxRecDepth 100000 in
theorem wd_907 : Cond.code yX9_nightBits cX9_nightBits 3 (some .int) ∈ am_big := in_big 984 rfl rfl
set_option maxRecDepth 100000 in
theorem wd_908 : Cond.code yX9_waitsAt cX9_waitsAt 4 (some .boolean) ∈ am_big := in_big 999 rfl rfl
set_option maxRecDepth 100000 in
theorem wd_909 : Cond.code yX9_heads cX9_heads 5 (some .int) ∈ am_big := in_big 995 rfl rfl
set_option maxRecDepth 100000 in
theorem wd_910 : Cond.code yX9_together cX9_together 6 (some .int) ∈ am_big := in_big 1007 rfl rfl
set_option maxRecDepth 100000 in
theorem wd_911 : Cond.code yX9_mayTurn cX9_mayTurn 3 (some .boolean) ∈ am_big := in_big 1029 rfl rfl
set_option maxRecDepth 100000 in
theorem wd_912 : Cond.code yX9_gainByTurning cX9_gainByTurning 3 (some .int) ∈ am_big := in_big 1033 rfl rfl
set_option maxRecDepth 100000 in
theorem wd_913 : Cond.code yX9_levels cX9_levels 14 (some .long) ∈ am_big := in_big 1117 rfl rfl
set_option maxRecDepth 100000 in
theorem wd_914 : Cond.code yX9_orders cX9_orders 4 (some .long) ∈ am_big := in_big 1120 rfl rfl
set_option maxRecDepth 100000 in
theorem wd_915 : Cond.code yX9_power cX9_power 6 (some .long) ∈ am_big := in_big 1124 rfl rfl
set_option maxRecDepth 100000 in
theorem wd_916 : Cond.code yX9_lowest cX9_lowest 13 (some .long) ∈ am_big := in_big 1127 rfl rfl
set_option maxRecDepth 100000 in
theorem wd_917 : Cond.code yX10_init cX10_init 1 none ∈ am_big := in_big 1263 rfl rfl
set_option maxRecDepth 100000 in
theorem wd_919 : Cond.code yX10_thrown cX10_thrown 1 (some .int) ∈ am_big := in_big 1439 rfl rfl
set_option maxRecDepth 100000 in
theorem wd_920 : Cond.code yX10_within cX10_within 3 (some .boolean) ∈ am_big := in_big 1482 rfl rfl
set_option maxRecDepth 100000 in
theorem wd_921 : Cond.code yX10_gcd cX10_gcd 10 (some .long) ∈ am_big := in_big 1746 rfl rfl
set_option maxRecDepth 100000 in
theorem wd_922 : Cond.code yX10_feed cX10_feed 11 (some .int) ∈ am_big := in_big 1443 rfl rfl
set_option maxRecDepth 100000 in
theorem wd_923 : Cond.code yX10_signAt cX10_signAt 2 (some .int) ∈ am_big := in_big 1460 rfl rfl
set_option maxRecDepth 100000 in
theorem wd_924 : Cond.code yX10_nextToken cX10_nextToken 2 none ∈ am_big := in_big 1456 rfl rfl
set_option maxRecDepth 100000 in
theorem wd_925 : Cond.code yX10_isWord cX10_isWord 3 (some .boolean) ∈ am_big := in_big 1467 rfl rfl
set_option maxRecDepth 100000 in
theorem wd_926 : Cond.code yX10_isSign cX10_isSign 2 (some .boolean) ∈ am_big := in_big 1490 rfl rfl
set_option maxRecDepth 100000 in
theorem wd_927 : Cond.code yX10_fails cX10_fails 2 (some .boolean) ∈ am_big := in_big 1475 rfl rfl
set_option maxRecDepth 100000 in
theorem wd_928 : Cond.code yX10_starts0 cX10_starts0 2 none ∈ am_big := in_big 1268 rfl rfl
set_option maxRecDepth 100000 in
theorem wd_929 : Cond.code yX10_puts cX10_puts 2 none ∈ am_big := in_big 1528 rfl rfl
set_option maxRecDepth 100000 in
theorem wd_930 : Cond.code yX10_fact cX10_fact 1 (some .int) ∈ am_big := in_big 1517 rfl rfl
set_option maxRecDepth 100000 in
theorem wd_931 : Cond.code yX10_reads cX10_reads 6 (some .boolean) ∈ am_big := in_big 1513 rfl rfl
set_option maxRecDepth 100000 in
theorem wd_932 : Cond.code yX10_opens cX10_opens 2 none ∈ am_big := in_big 1619 rfl rfl
set_option maxRecDepth 100000 in
theorem wd_933 : Cond.code yX10_sums cX10_sums 2 none ∈ am_big := in_big 1623 rfl rfl
set_option maxRecDepth 100000 in
theorem wd_934 : Cond.code yX10_tests cX10_tests 3 none ∈ am_big := in_big 1627 rfl rfl
set_option maxRecDepth 100000 in
theorem wd_935 : Cond.code yX10_worked cX10_worked 6 (some .int) ∈ am_big := in_big 1615 rfl rfl
set_option maxRecDepth 100000 in
theorem wd_936 : Cond.code yX10_isKept cX10_isKept 1 (some .boolean) ∈ am_big := in_big 1539 rfl rfl
set_option maxRecDepth 100000 in
theorem wd_937 : Cond.code yX10_needsNumber cX10_needsNumber 3 (some .boolean) ∈ am_big := in_big 1479 rfl rfl
set_option maxRecDepth 100000 in
theorem wd_938 : Cond.code yX10_needsWord cX10_needsWord 3 (some .boolean) ∈ am_big := in_big 1502 rfl rfl
set_option maxRecDepth 100000 in
theorem wd_939 : Cond.code yX10_ends cX10_ends 1 (some .boolean) ∈ am_big := in_big 1486 rfl rfl
set_option maxRecDepth 100000 in
theorem wd_940 : Cond.code yX10_readsOne cX10_readsOne 4 (some .boolean) ∈ am_big := in_big 1471 rfl rfl
set_option maxRecDepth 100000 in
theorem wd_941 : Cond.code yX10_readsSide cX10_readsSide 1 (some .boolean) ∈ am_big := in_big 1497 rfl rfl
set_option maxRecDepth 100000 in
theorem wd_942 : Cond.code yX10_readsLaw cX10_readsLaw 2 (some .boolean) ∈ am_big := in_big 1509 rfl rfl
set_option maxRecDepth 100000 in
theorem wd_943 : Cond.code yX10_kindAt cX10_kindAt 1 (some .int) ∈ am_big := in_big 1552 rfl rfl
set_option maxRecDepth 100000 in
theorem wd_944 : Cond.code yX10_choosers cX10_choosers 4 (some .int) ∈ am_big := in_big 1556 rfl rfl
set_option maxRecDepth 100000 in
theorem wd_945 : Cond.code yX10_readsPerson cX10_readsPerson 4 (some .boolean) ∈ am_big := in_big 1535 rfl rfl
set_option maxRecDepth 100000 in
theorem wd_946 : Cond.code yX10_readsAll cX10_readsAll 2 (some .boolean) ∈ am_big := in_big 1452 rfl rfl
set_option maxRecDepth 100000 in
theorem wd_947 : Cond.code yX10_moves cX10_moves 5 none ∈ am_big := in_big 1563 rfl rfl
set_option maxRecDepth 100000 in
theorem wd_948 : Cond.code yX10_lays cX10_lays 4 none ∈ am_big := in_big 1560 rfl rfl
set_option maxRecDepth 100000 in
theorem wd_949 : Cond.code yX10_river cX10_river 1 (some .int) ∈ am_big := in_big 1448 rfl rfl
set_option maxRecDepth 100000 in
theorem wd_950 : Cond.code yX10_isPerson cX10_isPerson 2 (some .boolean) ∈ am_big := in_big 1571 rfl rfl
set_option maxRecDepth 100000 in
theorem wd_951 : Cond.code yX10_isMinute cX10_isMinute 1 (some .boolean) ∈ am_big := in_big 1666 rfl rfl
set_option maxRecDepth 100000 in
theorem wd_952 : Cond.code yX10_countOf cX10_countOf 1 (some .int) ∈ am_big := in_big 1574 rfl rfl
set_option maxRecDepth 100000 in
theorem wd_953 : Cond.code yX10_person cX10_person 3 (some .int) ∈ am_big := in_big 1567 rfl rfl
set_option maxRecDepth 100000 in
theorem wd_954 : Cond.code yX10_use cX10_use 2 (some .boolean) ∈ am_big := in_big 1578 rfl rfl
set_option maxRecDepth 100000 in
theorem wd_955 : Cond.code yX10_joins cX10_joins 6 none ∈ am_big := in_big 1599 rfl rfl
set_option maxRecDepth 100000 in
theorem wd_956 : Cond.code yX10_dawns cX10_dawns 1 none ∈ am_big := in_big 1594 rfl rfl
set_option maxRecDepth 100000 in
theorem wd_957 : Cond.code yX10_tellsAll cX10_tellsAll 5 none ∈ am_big := in_big 1590 rfl rfl
set_option maxRecDepth 100000 in
theorem wd_958 : Cond.code yX10_isWaiting cX10_isWaiting 3 (some .boolean) ∈ am_big := in_big 1611 rfl rfl
set_option maxRecDepth 100000 in
theorem wd_959 : Cond.code yX10_wouldRing cX10_wouldRing 4 (some .boolean) ∈ am_big := in_big 1607 rfl rfl
set_option maxRecDepth 100000 in
theorem wd_960 : Cond.code yX10_firstOf cX10_firstOf 5 (some .int) ∈ am_big := in_big 1639 rfl rfl
set_option maxRecDepth 100000 in
theorem wd_961 : Cond.code yX10_leaves cX10_leaves 5 (some .int) ∈ am_big := in_big 1635 rfl rfl
set_option maxRecDepth 100000 in
theorem wd_962 : Cond.code yX10_ringsOnce cX10_ringsOnce 2 none ∈ am_big := in_big 1631 rfl rfl
set_option maxRecDepth 100000 in
theorem wd_963 : Cond.code yX10_goesOn cX10_goesOn 4 none ∈ am_big := in_big 1603 rfl rfl
set_option maxRecDepth 100000 in
theorem wd_964 : Cond.code yX10_day cX10_day 2 none ∈ am_big := in_big 1586 rfl rfl
set_option maxRecDepth 100000 in
theorem wd_965 : Cond.code yX10_waitOf cX10_waitOf 2 (some .int) ∈ am_big := in_big 1651 rfl rfl
set_option maxRecDepth 100000 in
theorem wd_966 : Cond.code yX10_costAll cX10_costAll 4 (some .int) ∈ am_big := in_big 1659 rfl rfl
set_option maxRecDepth 100000 in
theorem wd_967 : Cond.code yX10_rings cX10_rings 1 (some .int) ∈ am_big := in_big 1582 rfl rfl
set_option maxRecDepth 100000 in
theorem wd_968 : Cond.code yX10_ring cX10_ring 3 (some .int) ∈ am_big := in_big 1643 rfl rfl
set_option maxRecDepth 100000 in
theorem wd_969 : Cond.code yX10_waits cX10_waits 3 (some .int) ∈ am_big := in_big 1647 rfl rfl
set_option maxRecDepth 100000 in
theorem wd_970 : Cond.code yX10_all cX10_all 5 (some .int) ∈ am_big := in_big 1655 rfl rfl
set_option maxRecDepth 100000 in
theorem wd_971 : Cond.code yX10_waitsBehind cX10_waitsBehind 3 (some .boolean) ∈ am_big := in_big 1670 rfl rfl
set_option maxRecDepth 100000 in
theorem wd_972 : Cond.code yX10_bank cX10_bank 6 (some .int) ∈ am_big := in_big 1663 rfl rfl
set_option maxRecDepth 100000 in
theorem wd_973 : Cond.code yX10_ringsBy cX10_ringsBy 6 (some .boolean) ∈ am_big := in_big 1678 rfl rfl
set_option maxRecDepth 100000 in
theorem wd_974 : Cond.code yX10_send cX10_send 5 (some .int) ∈ am_big := in_big 1674 rfl rfl
set_option maxRecDepth 100000 in
theorem wd_975 : Cond.code yX10_canTurn cX10_canTurn 3 (some .boolean) ∈ am_big := in_big 1686 rfl rfl
set_option maxRecDepth 100000 in
theorem wd_976 : Cond.code yX10_turns cX10_turns 4 (some .int) ∈ am_big := in_big 1690 rfl rfl
set_option maxRecDepth 100000 in
theorem wd_977 : Cond.code yX10_turn cX10_turn 3 (some .int) ∈ am_big := in_big 1682 rfl rfl
set_option maxRecDepth 100000 in
theorem wd_978 : Cond.code yX10_asks cX10_asks 6 (some .int) ∈ am_big := in_big 1694 rfl rfl
set_option maxRecDepth 100000 in
theorem wd_979 : Cond.code yX10_choices cX10_choices 5 (some .int) ∈ am_big := in_big 1702 rfl rfl
set_option maxRecDepth 100000 in
theorem wd_980 : Cond.code yX10_choice cX10_choice 5 (some .int) ∈ am_big := in_big 1698 rfl rfl
set_option maxRecDepth 100000 in
theorem wd_981 : Cond.code yX10_chosen cX10_chosen 2 (some .int) ∈ am_big := in_big 1706 rfl rfl
set_option maxRecDepth 100000 in
theorem wd_982 : Cond.code yX10_isRest cX10_isRest 3 (some .boolean) ∈ am_big := in_big 1714 rfl rfl
set_option maxRecDepth 100000 in
theorem wd_983 : Cond.code yX10_rests cX10_rests 4 (some .int) ∈ am_big := in_big 1710 rfl rfl
set_option maxRecDepth 100000 in
theorem wd_984 : Cond.code yX10_rest cX10_rest 5 (some .int) ∈ am_big := in_big 1718 rfl rfl
set_option maxRecDepth 100000 in
theorem wd_985 : Cond.code yX10_tell cX10_tell 3 (some .int) ∈ am_big := in_big 1722 rfl rfl
set_option maxRecDepth 100000 in
theorem wd_986 : Cond.code yX10_clear cX10_clear 1 (some .boolean) ∈ am_big := in_big 1726 rfl rfl
set_option maxRecDepth 100000 in
theorem wd_987 : Cond.code yX10_judged cX10_judged 5 (some .int) ∈ am_big := in_big 1730 rfl rfl
set_option maxRecDepth 100000 in
theorem wd_988 : Cond.code yX10_firsts cX10_firsts 4 (some .long) ∈ am_big := in_big 1742 rfl rfl
set_option maxRecDepth 100000 in
theorem wd_989 : Cond.code yX10_chance cX10_chance 5 (some .long) ∈ am_big := in_big 1739 rfl rfl
set_option maxRecDepth 100000 in
theorem wd_990 : Cond.code yX10_likely cX10_likely 8 (some .long) ∈ am_big := in_big 1734 rfl rfl
set_option maxRecDepth 100000 in
theorem wd_991 : Cond.code yX10_mean cX10_mean 8 (some .long) ∈ am_big := in_big 1750 rfl rfl
set_option maxRecDepth 100000 in
theorem wd_992 : Cond.code yX10_came cX10_came 2 (some .long) ∈ am_big := in_big 1754 rfl rfl
set_option maxRecDepth 100000 in
theorem wd_993 : Cond.code yX10_draws cX10_draws 2 (some .int) ∈ am_big := in_big 1762 rfl rfl
set_option maxRecDepth 100000 in
theorem wd_994 : Cond.code yX10_lots cX10_lots 11 (some .int) ∈ am_big := in_big 1758 rfl rfl
set_option maxRecDepth 100000 in
theorem wd_995 : Cond.code yX10_best cX10_best 6 (some .int) ∈ am_big := in_big 1770 rfl rfl
set_option maxRecDepth 100000 in
theorem wd_996 : Cond.code yX10_mark cX10_mark 3 (some .boolean) ∈ am_big := in_big 1774 rfl rfl
set_option maxRecDepth 100000 in
theorem wd_997 : Cond.code yX10_count cX10_count 2 (some .int) ∈ am_big := in_big 1778 rfl rfl
def wl0 : List Cond := [Cond.constantLong "EvenFerry" 327 2, Cond.methodLink "EvenFerry$Bank" 3 Lib.objectInit, Cond.instanceMethod Lib.objectInit, Cond.methodLink "EvenFerry$Bank" 9 Lib.Math.max.name, Cond.static Lib.Math.max.name, Cond.initialized "java/lang/Math", Cond.fieldLink "EvenFerry$Bank" 15 "EvenFerry$Bank" "row" "[I", Cond.arrayClass .int, Cond.fieldLink "EvenFerry$Bank" 21 "EvenFerry$Bank" "head" "I", Cond.fieldLink "EvenFerry$Bank" 25 "EvenFerry$Bank" "tail" "I", Cond.fieldLink "EvenFerry$Bank" 28 "EvenFerry$Bank" "counts" "I", Cond.fieldLink "EvenFerry$Bank" 31 "EvenFerry$Bank" "load" "I", Cond.fieldLink "EvenFerry$Bank" 34 "EvenFerry$Bank" "guests" "I", Cond.static yX9_set, Cond.fieldLink "EvenFerry$Bank" 41 "EvenFerry$Crowd" "counts" "[I", Cond.static yX9_get, Cond.fieldLink "EvenFerry$Bank" 49 "EvenFerry$Crowd" "weights" "[I", Cond.instanceMethod yX0_leaveFirst, Cond.selects "EvenFerry$Bank" yX0_leaveFirst yX0_leaveFirst, Cond.methodLink "EvenFerry$Bank" 52 yX0_leaveFirst, Cond.methodLink "EvenFerry$Crowd" 1 Lib.objectInit, Cond.methodLink "EvenFerry$Crowd" 7 Lib.Math.max.name, Cond.fieldLink "EvenFerry$Crowd" 13 "EvenFerry$Crowd" "times" "[I", Cond.fieldLink "EvenFerry$Crowd" 19 "EvenFerry$Crowd" "sides" "[I", Cond.fieldLink "EvenFerry$Crowd" 22 "EvenFerry$Crowd" "weights" "[I", Cond.fieldLink "EvenFerry$Crowd" 25 "EvenFerry$Crowd" "counts" "[I", Cond.fieldLink "EvenFerry$Crowd" 28 "EvenFerry$Crowd" "order" "[I", Cond.fieldLink "EvenFerry$Crowd" 31 "EvenFerry$Crowd" "size" "I", Cond.methodLink "EvenFerry$State" 3 Lib.objectInit, Cond.fieldLink "EvenFerry$State" 9 "EvenFerry$State" "told" "[I", Cond.fieldLink "EvenFerry$State" 15 "EvenFerry$State" "law" "I", Cond.fieldLink "EvenFerry$State" 19 "EvenFerry$State" "river" "LEvenFerry$River;", Cond.fieldLink "EvenFerry$State" 23 "EvenFerry$River" "laws" "I", Cond.fieldLink "EvenFerry$State" 28 "EvenFerry$State" "tolds" "I", Cond.static yX9_isMinute, Cond.methodLink "EvenFerry$River" 3 Lib.objectInit, Cond.methodLink "EvenFerry$River" 11 yX2_init, Cond.instanceMethod yX2_init, Cond.fieldLink "EvenFerry$River" 14 "EvenFerry$River" "people" "LEvenFerry$Crowd;", Cond.fieldLink "EvenFerry$River" 20 "EvenFerry$River" "costs" "[I", Cond.fieldLink "EvenFerry$River" 24 "EvenFerry$River" "kinds" "[I", Cond.fieldLink "EvenFerry$River" 27 "EvenFerry$River" "chooserPersons" "[I", Cond.fieldLink "EvenFerry$River" 30 "EvenFerry$River" "lawStarts" "[I", Cond.fieldLink "EvenFerry$River" 33 "EvenFerry$River" "code" "[I", Cond.fieldLink "EvenFerry$River" 36 "EvenFerry$River" "room" "I", Cond.fieldLink "EvenFerry$River" 40 "EvenFerry$River" "trip" "I", Cond.fieldLink "EvenFerry$River" 43 "EvenFerry$River" "boats" "I", Cond.fieldLink "EvenFerry$River" 46 "EvenFerry$River" "first" "I", Cond.fieldLink "EvenFerry$River" 49 "EvenFerry$River" "second" "I", Cond.fieldLink "EvenFerry$River" 52 "EvenFerry$River" "come" "I", Cond.classLink "EvenFerry$River" 9 "EvenFerry$Crowd", Cond.instantiable "EvenFerry$Crowd" 6, Cond.initialized "EvenFerry$Crowd", Cond.fieldLink "EvenFerry$River" 55 "EvenFerry$Crowd" "size" "I", Cond.methodLink "EvenFerry$River" 62 yX6_countOf, Cond.static yX6_countOf, Cond.instanceMethod yX2_add, Cond.selects "EvenFerry$Crowd" yX2_add yX2_add, Cond.methodLink "EvenFerry$River" 66 yX2_add, Cond.fieldLink "EvenFerry$River" 70 "EvenFerry$River" "choosers" "I"]
set_option maxRecDepth 100000 in
theorem wl0_e : wl0 = [1121, 357, 121, 358, 136, 95, 359, 174, 361, 363, 365, 366, 367, 640, 150, 741, 147, 872, 873, 871, 134, 135, 138, 141, 146, 149, 152, 154, 319, 320, 326, 322, 217, 330, 990, 128, 131, 132, 175, 180, 183, 185, 187, 188, 190, 194, 198, 202, 206, 210, 129, 130, 94, 155, 797, 798, 801, 802, 800, 214].filterMap (fun i => lw_tbl[i]?) := by decide +kernel
set_option maxRecDepth 100000 in
theorem wl0_g : wl0.all goodWord = true := by decide +kernel
theorem wl0_m {x : Cond} (i : Nat) (h : wl0[i]? = some x) : x ∈ am_big := am_wl wl0_e wl0_g (List.mem_of_getElem? h)
theorem wd_0 : Cond.constantLong "EvenFerry" 327 2 ∈ am_big := wl0_m 0 rfl
theorem wd_1 : Cond.methodLink "EvenFerry$Bank" 3 Lib.objectInit ∈ am_big := wl0_m 1 rfl
theorem wd_2 : Cond.instanceMethod Lib.objectInit ∈ am_big := wl0_m 2 rfl
theorem wd_4 : Cond.methodLink "EvenFerry$Bank" 9 Lib.Math.max.name ∈ am_big := wl0_m 3 rfl
theorem wd_5 : Cond.static Lib.Math.max.name ∈ am_big := wl0_m 4 rfl
theorem wd_6 : Cond.initialized "java/lang/Math" ∈ am_big := wl0_m 5 rfl
theorem wd_8 : Cond.fieldLink "EvenFerry$Bank" 15 "EvenFerry$Bank" "row" "[I" ∈ am_big := wl0_m 6 rfl
theorem wd_9 : Cond.arrayClass .int ∈ am_big := wl0_m 7 rfl
theorem wd_10 : Cond.fieldLink "EvenFerry$Bank" 21 "EvenFerry$Bank" "head" "I" ∈ am_big := wl0_m 8 rfl
theorem wd_11 : Cond.fieldLink "EvenFerry$Bank" 25 "EvenFerry$Bank" "tail" "I" ∈ am_big := wl0_m 9 rfl
theorem wd_12 : Cond.fieldLink "EvenFerry$Bank" 28 "EvenFerry$Bank" "counts" "I" ∈ am_big := wl0_m 10 rfl
theorem wd_13 : Cond.fieldLink "EvenFerry$Bank" 31 "EvenFerry$Bank" "load" "I" ∈ am_big := wl0_m 11 rfl
theorem wd_14 : Cond.fieldLink "EvenFerry$Bank" 34 "EvenFerry$Bank" "guests" "I" ∈ am_big := wl0_m 12 rfl
theorem wd_16 : Cond.static yX9_set ∈ am_big := wl0_m 13 rfl
theorem wd_17 : Cond.fieldLink "EvenFerry$Bank" 41 "EvenFerry$Crowd" "counts" "[I" ∈ am_big := wl0_m 14 rfl
theorem wd_19 : Cond.static yX9_get ∈ am_big := wl0_m 15 rfl
theorem wd_20 : Cond.fieldLink "EvenFerry$Bank" 49 "EvenFerry$Crowd" "weights" "[I" ∈ am_big := wl0_m 16 rfl
theorem wd_21 : Cond.instanceMethod yX0_leaveFirst ∈ am_big := wl0_m 17 rfl
theorem wd_22 : Cond.selects "EvenFerry$Bank" yX0_leaveFirst yX0_leaveFirst ∈ am_big := wl0_m 18 rfl
theorem wd_23 : Cond.methodLink "EvenFerry$Bank" 52 yX0_leaveFirst ∈ am_big := wl0_m 19 rfl
theorem wd_24 : Cond.methodLink "EvenFerry$Crowd" 1 Lib.objectInit ∈ am_big := wl0_m 20 rfl
theorem wd_25 : Cond.methodLink "EvenFerry$Crowd" 7 Lib.Math.max.name ∈ am_big := wl0_m 21 rfl
theorem wd_26 : Cond.fieldLink "EvenFerry$Crowd" 13 "EvenFerry$Crowd" "times" "[I" ∈ am_big := wl0_m 22 rfl
theorem wd_27 : Cond.fieldLink "EvenFerry$Crowd" 19 "EvenFerry$Crowd" "sides" "[I" ∈ am_big := wl0_m 23 rfl
theorem wd_28 : Cond.fieldLink "EvenFerry$Crowd" 22 "EvenFerry$Crowd" "weights" "[I" ∈ am_big := wl0_m 24 rfl
theorem wd_29 : Cond.fieldLink "EvenFerry$Crowd" 25 "EvenFerry$Crowd" "counts" "[I" ∈ am_big := wl0_m 25 rfl
theorem wd_30 : Cond.fieldLink "EvenFerry$Crowd" 28 "EvenFerry$Crowd" "order" "[I" ∈ am_big := wl0_m 26 rfl
theorem wd_31 : Cond.fieldLink "EvenFerry$Crowd" 31 "EvenFerry$Crowd" "size" "I" ∈ am_big := wl0_m 27 rfl
theorem wd_34 : Cond.methodLink "EvenFerry$State" 3 Lib.objectInit ∈ am_big := wl0_m 28 rfl
theorem wd_35 : Cond.fieldLink "EvenFerry$State" 9 "EvenFerry$State" "told" "[I" ∈ am_big := wl0_m 29 rfl
theorem wd_36 : Cond.fieldLink "EvenFerry$State" 15 "EvenFerry$State" "law" "I" ∈ am_big := wl0_m 30 rfl
theorem wd_37 : Cond.fieldLink "EvenFerry$State" 19 "EvenFerry$State" "river" "LEvenFerry$River;" ∈ am_big := wl0_m 31 rfl
theorem wd_38 : Cond.fieldLink "EvenFerry$State" 23 "EvenFerry$River" "laws" "I" ∈ am_big := wl0_m 32 rfl
theorem wd_39 : Cond.fieldLink "EvenFerry$State" 28 "EvenFerry$State" "tolds" "I" ∈ am_big := wl0_m 33 rfl
theorem wd_43 : Cond.static yX9_isMinute ∈ am_big := wl0_m 34 rfl
theorem wd_44 : Cond.methodLink "EvenFerry$River" 3 Lib.objectInit ∈ am_big := wl0_m 35 rfl
theorem wd_45 : Cond.methodLink "EvenFerry$River" 11 yX2_init ∈ am_big := wl0_m 36 rfl
theorem wd_46 : Cond.instanceMethod yX2_init ∈ am_big := wl0_m 37 rfl
theorem wd_47 : Cond.fieldLink "EvenFerry$River" 14 "EvenFerry$River" "people" "LEvenFerry$Crowd;" ∈ am_big := wl0_m 38 rfl
theorem wd_48 : Cond.fieldLink "EvenFerry$River" 20 "EvenFerry$River" "costs" "[I" ∈ am_big := wl0_m 39 rfl
theorem wd_49 : Cond.fieldLink "EvenFerry$River" 24 "EvenFerry$River" "kinds" "[I" ∈ am_big := wl0_m 40 rfl
theorem wd_50 : Cond.fieldLink "EvenFerry$River" 27 "EvenFerry$River" "chooserPersons" "[I" ∈ am_big := wl0_m 41 rfl
theorem wd_51 : Cond.fieldLink "EvenFerry$River" 30 "EvenFerry$River" "lawStarts" "[I" ∈ am_big := wl0_m 42 rfl
theorem wd_52 : Cond.fieldLink "EvenFerry$River" 33 "EvenFerry$River" "code" "[I" ∈ am_big := wl0_m 43 rfl
theorem wd_53 : Cond.fieldLink "EvenFerry$River" 36 "EvenFerry$River" "room" "I" ∈ am_big := wl0_m 44 rfl
theorem wd_54 : Cond.fieldLink "EvenFerry$River" 40 "EvenFerry$River" "trip" "I" ∈ am_big := wl0_m 45 rfl
theorem wd_55 : Cond.fieldLink "EvenFerry$River" 43 "EvenFerry$River" "boats" "I" ∈ am_big := wl0_m 46 rfl
theorem wd_56 : Cond.fieldLink "EvenFerry$River" 46 "EvenFerry$River" "first" "I" ∈ am_big := wl0_m 47 rfl
theorem wd_57 : Cond.fieldLink "EvenFerry$River" 49 "EvenFerry$River" "second" "I" ∈ am_big := wl0_m 48 rfl
theorem wd_58 : Cond.fieldLink "EvenFerry$River" 52 "EvenFerry$River" "come" "I" ∈ am_big := wl0_m 49 rfl
theorem wd_59 : Cond.classLink "EvenFerry$River" 9 "EvenFerry$Crowd" ∈ am_big := wl0_m 50 rfl
theorem wd_60 : Cond.instantiable "EvenFerry$Crowd" 6 ∈ am_big := wl0_m 51 rfl
theorem wd_61 : Cond.initialized "EvenFerry$Crowd" ∈ am_big := wl0_m 52 rfl
theorem wd_62 : Cond.fieldLink "EvenFerry$River" 55 "EvenFerry$Crowd" "size" "I" ∈ am_big := wl0_m 53 rfl
theorem wd_64 : Cond.methodLink "EvenFerry$River" 62 yX6_countOf ∈ am_big := wl0_m 54 rfl
theorem wd_65 : Cond.static yX6_countOf ∈ am_big := wl0_m 55 rfl
theorem wd_66 : Cond.instanceMethod yX2_add ∈ am_big := wl0_m 56 rfl
theorem wd_67 : Cond.selects "EvenFerry$Crowd" yX2_add yX2_add ∈ am_big := wl0_m 57 rfl
theorem wd_68 : Cond.methodLink "EvenFerry$River" 66 yX2_add ∈ am_big := wl0_m 58 rfl
theorem wd_69 : Cond.fieldLink "EvenFerry$River" 70 "EvenFerry$River" "choosers" "I" ∈ am_big := wl0_m 59 rfl
def wl1 : List Cond := [Cond.fieldLink "EvenFerry$River" 73 "EvenFerry$River" "laws" "I", Cond.fieldLink "EvenFerry$River" 76 "EvenFerry$River" "timedLaws" "I", Cond.methodLink "EvenFerry$River" 83 Lib.Math.min.name, Cond.static Lib.Math.min.name, Cond.methodLink "EvenFerry$River" 89 Lib.Math.max.name, Cond.methodLink "EvenFerry$River" 92 yX6_joined, Cond.static yX6_joined, Cond.methodLink "EvenFerry$Tape" 3 Lib.objectInit, Cond.fieldLink "EvenFerry$Tape" 9 "EvenFerry$Tape" "signs" "[C", Cond.fieldLink "EvenFerry$Tape" 15 "EvenFerry$Tape" "kinds" "[I", Cond.fieldLink "EvenFerry$Tape" 19 "EvenFerry$Tape" "places" "[I", Cond.arrayClass .char, Cond.fieldLink "EvenFerry$Tape" 22 "EvenFerry$Tape" "length" "I", Cond.fieldLink "EvenFerry$Tape" 26 "EvenFerry$Tape" "tokens" "I", Cond.instanceMethod yX8_signAt, Cond.selects "EvenFerry$Tape" yX8_signAt yX8_signAt, Cond.methodLink "EvenFerry$Tape" 29 yX8_signAt, Cond.methodLink "EvenFerry$Tape" 33 yX8_isLetter, Cond.static yX8_isLetter, Cond.methodLink "EvenFerry$Tape" 49 yX8_isDigit, Cond.static yX8_isDigit, Cond.constantLong "EvenFerry$Tape" 87 32, Cond.methodLink "EvenFerry$Parser" 3 Lib.objectInit, Cond.fieldLink "EvenFerry$Parser" 9 "EvenFerry$Parser" "names" "[J", Cond.fieldLink "EvenFerry$Parser" 15 "EvenFerry$Parser" "code" "[I", Cond.fieldLink "EvenFerry$Parser" 19 "EvenFerry$Parser" "tape" "LEvenFerry$Tape;", Cond.fieldLink "EvenFerry$Parser" 23 "EvenFerry$Parser" "river" "LEvenFerry$River;", Cond.arrayClass .long, Cond.fieldLink "EvenFerry$Parser" 31 "EvenFerry$Parser" "token" "I", Cond.fieldLink "EvenFerry$Parser" 65 "EvenFerry$Tape" "kinds" "[I", Cond.fieldLink "EvenFerry$Parser" 70 "EvenFerry$Tape" "tokens" "I", Cond.fieldLink "EvenFerry$Parser" 34 "EvenFerry$Parser" "fault" "I", Cond.fieldLink "EvenFerry$Parser" 73 "EvenFerry$Tape" "places" "[I", Cond.instanceMethod yX5_kind, Cond.selects "EvenFerry$Parser" yX5_kind yX5_kind, Cond.methodLink "EvenFerry$Parser" 40 yX5_kind, Cond.instanceMethod yX5_step, Cond.selects "EvenFerry$Parser" yX5_step yX5_step, Cond.methodLink "EvenFerry$Parser" 76 yX5_step, Cond.instanceMethod yX5_wrong, Cond.selects "EvenFerry$Parser" yX5_wrong yX5_wrong, Cond.methodLink "EvenFerry$Parser" 79 yX5_wrong, Cond.instanceMethod yX8_numberValue, Cond.selects "EvenFerry$Tape" yX8_numberValue yX8_numberValue, Cond.methodLink "EvenFerry$Parser" 83 yX8_numberValue, Cond.instanceMethod yX5_lineToldOnce, Cond.selects "EvenFerry$Parser" yX5_lineToldOnce yX5_lineToldOnce, Cond.methodLink "EvenFerry$Parser" 87 yX5_lineToldOnce, Cond.instanceMethod yX5_expect, Cond.selects "EvenFerry$Parser" yX5_expect yX5_expect, Cond.methodLink "EvenFerry$Parser" 96 yX5_expect, Cond.instanceMethod yX5_lawLine, Cond.selects "EvenFerry$Parser" yX5_lawLine yX5_lawLine, Cond.methodLink "EvenFerry$Parser" 90 yX5_lawLine, Cond.instanceMethod yX5_personLine, Cond.selects "EvenFerry$Parser" yX5_personLine yX5_personLine, Cond.methodLink "EvenFerry$Parser" 93 yX5_personLine, Cond.fieldLink "EvenFerry$Parser" 37 "EvenFerry$Parser" "toldOnce" "I", Cond.instanceMethod yX5_number, Cond.selects "EvenFerry$Parser" yX5_number yX5_number]
set_option maxRecDepth 100000 in
theorem wl1_e : wl1 = [218, 221, 926, 667, 927, 928, 929, 259, 260, 261, 263, 280, 266, 267, 569, 0, 567, 571, 572, 642, 643, 784, 286, 288, 289, 287, 290, 313, 293, 262, 268, 294, 264, 714, 6, 712, 730, 10, 728, 726, 9, 724, 737, 738, 736, 722, 8, 720, 745, 12, 743, 749, 13, 747, 774, 17, 772, 295, 734, 11].filterMap (fun i => lw_tbl[i]?) := by decide +kernel
set_option maxRecDepth 100000 in
theorem wl1_g : wl1.all goodWord = true := by decide +kernel
theorem wl1_m {x : Cond} (i : Nat) (h : wl1[i]? = some x) : x ∈ am_big := am_wl wl1_e wl1_g (List.mem_of_getElem? h)
theorem wd_70 : Cond.fieldLink "EvenFerry$River" 73 "EvenFerry$River" "laws" "I" ∈ am_big := wl1_m 0 rfl
theorem wd_71 : Cond.fieldLink "EvenFerry$River" 76 "EvenFerry$River" "timedLaws" "I" ∈ am_big := wl1_m 1 rfl
theorem wd_73 : Cond.methodLink "EvenFerry$River" 83 Lib.Math.min.name ∈ am_big := wl1_m 2 rfl
theorem wd_74 : Cond.static Lib.Math.min.name ∈ am_big := wl1_m 3 rfl
theorem wd_76 : Cond.methodLink "EvenFerry$River" 89 Lib.Math.max.name ∈ am_big := wl1_m 4 rfl
theorem wd_77 : Cond.methodLink "EvenFerry$River" 92 yX6_joined ∈ am_big := wl1_m 5 rfl
theorem wd_78 : Cond.static yX6_joined ∈ am_big := wl1_m 6 rfl
theorem wd_79 : Cond.methodLink "EvenFerry$Tape" 3 Lib.objectInit ∈ am_big := wl1_m 7 rfl
theorem wd_80 : Cond.fieldLink "EvenFerry$Tape" 9 "EvenFerry$Tape" "signs" "[C" ∈ am_big := wl1_m 8 rfl
theorem wd_81 : Cond.fieldLink "EvenFerry$Tape" 15 "EvenFerry$Tape" "kinds" "[I" ∈ am_big := wl1_m 9 rfl
theorem wd_82 : Cond.fieldLink "EvenFerry$Tape" 19 "EvenFerry$Tape" "places" "[I" ∈ am_big := wl1_m 10 rfl
theorem wd_83 : Cond.arrayClass .char ∈ am_big := wl1_m 11 rfl
theorem wd_84 : Cond.fieldLink "EvenFerry$Tape" 22 "EvenFerry$Tape" "length" "I" ∈ am_big := wl1_m 12 rfl
theorem wd_85 : Cond.fieldLink "EvenFerry$Tape" 26 "EvenFerry$Tape" "tokens" "I" ∈ am_big := wl1_m 13 rfl
theorem wd_87 : Cond.instanceMethod yX8_signAt ∈ am_big := wl1_m 14 rfl
theorem wd_88 : Cond.selects "EvenFerry$Tape" yX8_signAt yX8_signAt ∈ am_big := wl1_m 15 rfl
theorem wd_89 : Cond.methodLink "EvenFerry$Tape" 29 yX8_signAt ∈ am_big := wl1_m 16 rfl
theorem wd_90 : Cond.methodLink "EvenFerry$Tape" 33 yX8_isLetter ∈ am_big := wl1_m 17 rfl
theorem wd_91 : Cond.static yX8_isLetter ∈ am_big := wl1_m 18 rfl
theorem wd_92 : Cond.methodLink "EvenFerry$Tape" 49 yX8_isDigit ∈ am_big := wl1_m 19 rfl
theorem wd_93 : Cond.static yX8_isDigit ∈ am_big := wl1_m 20 rfl
theorem wd_95 : Cond.constantLong "EvenFerry$Tape" 87 32 ∈ am_big := wl1_m 21 rfl
theorem wd_96 : Cond.methodLink "EvenFerry$Parser" 3 Lib.objectInit ∈ am_big := wl1_m 22 rfl
theorem wd_97 : Cond.fieldLink "EvenFerry$Parser" 9 "EvenFerry$Parser" "names" "[J" ∈ am_big := wl1_m 23 rfl
theorem wd_98 : Cond.fieldLink "EvenFerry$Parser" 15 "EvenFerry$Parser" "code" "[I" ∈ am_big := wl1_m 24 rfl
theorem wd_99 : Cond.fieldLink "EvenFerry$Parser" 19 "EvenFerry$Parser" "tape" "LEvenFerry$Tape;" ∈ am_big := wl1_m 25 rfl
theorem wd_100 : Cond.fieldLink "EvenFerry$Parser" 23 "EvenFerry$Parser" "river" "LEvenFerry$River;" ∈ am_big := wl1_m 26 rfl
theorem wd_101 : Cond.arrayClass .long ∈ am_big := wl1_m 27 rfl
theorem wd_102 : Cond.fieldLink "EvenFerry$Parser" 31 "EvenFerry$Parser" "token" "I" ∈ am_big := wl1_m 28 rfl
theorem wd_103 : Cond.fieldLink "EvenFerry$Parser" 65 "EvenFerry$Tape" "kinds" "[I" ∈ am_big := wl1_m 29 rfl
theorem wd_104 : Cond.fieldLink "EvenFerry$Parser" 70 "EvenFerry$Tape" "tokens" "I" ∈ am_big := wl1_m 30 rfl
theorem wd_105 : Cond.fieldLink "EvenFerry$Parser" 34 "EvenFerry$Parser" "fault" "I" ∈ am_big := wl1_m 31 rfl
theorem wd_106 : Cond.fieldLink "EvenFerry$Parser" 73 "EvenFerry$Tape" "places" "[I" ∈ am_big := wl1_m 32 rfl
theorem wd_107 : Cond.instanceMethod yX5_kind ∈ am_big := wl1_m 33 rfl
theorem wd_108 : Cond.selects "EvenFerry$Parser" yX5_kind yX5_kind ∈ am_big := wl1_m 34 rfl
theorem wd_109 : Cond.methodLink "EvenFerry$Parser" 40 yX5_kind ∈ am_big := wl1_m 35 rfl
theorem wd_110 : Cond.instanceMethod yX5_step ∈ am_big := wl1_m 36 rfl
theorem wd_111 : Cond.selects "EvenFerry$Parser" yX5_step yX5_step ∈ am_big := wl1_m 37 rfl
theorem wd_112 : Cond.methodLink "EvenFerry$Parser" 76 yX5_step ∈ am_big := wl1_m 38 rfl
theorem wd_113 : Cond.instanceMethod yX5_wrong ∈ am_big := wl1_m 39 rfl
theorem wd_114 : Cond.selects "EvenFerry$Parser" yX5_wrong yX5_wrong ∈ am_big := wl1_m 40 rfl
theorem wd_115 : Cond.methodLink "EvenFerry$Parser" 79 yX5_wrong ∈ am_big := wl1_m 41 rfl
theorem wd_116 : Cond.instanceMethod yX8_numberValue ∈ am_big := wl1_m 42 rfl
theorem wd_117 : Cond.selects "EvenFerry$Tape" yX8_numberValue yX8_numberValue ∈ am_big := wl1_m 43 rfl
theorem wd_118 : Cond.methodLink "EvenFerry$Parser" 83 yX8_numberValue ∈ am_big := wl1_m 44 rfl
theorem wd_119 : Cond.instanceMethod yX5_lineToldOnce ∈ am_big := wl1_m 45 rfl
theorem wd_120 : Cond.selects "EvenFerry$Parser" yX5_lineToldOnce yX5_lineToldOnce ∈ am_big := wl1_m 46 rfl
theorem wd_121 : Cond.methodLink "EvenFerry$Parser" 87 yX5_lineToldOnce ∈ am_big := wl1_m 47 rfl
theorem wd_122 : Cond.instanceMethod yX5_expect ∈ am_big := wl1_m 48 rfl
theorem wd_123 : Cond.selects "EvenFerry$Parser" yX5_expect yX5_expect ∈ am_big := wl1_m 49 rfl
theorem wd_124 : Cond.methodLink "EvenFerry$Parser" 96 yX5_expect ∈ am_big := wl1_m 50 rfl
theorem wd_125 : Cond.instanceMethod yX5_lawLine ∈ am_big := wl1_m 51 rfl
theorem wd_126 : Cond.selects "EvenFerry$Parser" yX5_lawLine yX5_lawLine ∈ am_big := wl1_m 52 rfl
theorem wd_127 : Cond.methodLink "EvenFerry$Parser" 90 yX5_lawLine ∈ am_big := wl1_m 53 rfl
theorem wd_128 : Cond.instanceMethod yX5_personLine ∈ am_big := wl1_m 54 rfl
theorem wd_129 : Cond.selects "EvenFerry$Parser" yX5_personLine yX5_personLine ∈ am_big := wl1_m 55 rfl
theorem wd_130 : Cond.methodLink "EvenFerry$Parser" 93 yX5_personLine ∈ am_big := wl1_m 56 rfl
theorem wd_131 : Cond.fieldLink "EvenFerry$Parser" 37 "EvenFerry$Parser" "toldOnce" "I" ∈ am_big := wl1_m 57 rfl
theorem wd_132 : Cond.instanceMethod yX5_number ∈ am_big := wl1_m 58 rfl
theorem wd_133 : Cond.selects "EvenFerry$Parser" yX5_number yX5_number ∈ am_big := wl1_m 59 rfl
def wl2 : List Cond := [Cond.methodLink "EvenFerry$Parser" 99 yX5_number, Cond.fieldLink "EvenFerry$Parser" 102 "EvenFerry$River" "room" "I", Cond.fieldLink "EvenFerry$Parser" 105 "EvenFerry$River" "trip" "I", Cond.fieldLink "EvenFerry$Parser" 108 "EvenFerry$River" "boats" "I", Cond.fieldLink "EvenFerry$Parser" 111 "EvenFerry$River" "first" "I", Cond.fieldLink "EvenFerry$Parser" 114 "EvenFerry$River" "second" "I", Cond.fieldLink "EvenFerry$Parser" 117 "EvenFerry$River" "come" "I", Cond.fieldLink "EvenFerry$Parser" 120 "EvenFerry$River" "people" "LEvenFerry$Crowd;", Cond.fieldLink "EvenFerry$Parser" 124 "EvenFerry$Crowd" "size" "I", Cond.instanceMethod yX5_name, Cond.selects "EvenFerry$Parser" yX5_name yX5_name, Cond.methodLink "EvenFerry$Parser" 129 yX5_name, Cond.instanceMethod yX5_sideWord, Cond.selects "EvenFerry$Parser" yX5_sideWord yX5_sideWord, Cond.methodLink "EvenFerry$Parser" 132 yX5_sideWord, Cond.instanceMethod yX5_kindWord, Cond.selects "EvenFerry$Parser" yX5_kindWord yX5_kindWord, Cond.methodLink "EvenFerry$Parser" 135 yX5_kindWord, Cond.instanceMethod yX6_addPerson, Cond.selects "EvenFerry$River" yX6_addPerson yX6_addPerson, Cond.methodLink "EvenFerry$Parser" 138 yX6_addPerson, Cond.instanceMethod yX8_nameKey, Cond.selects "EvenFerry$Tape" yX8_nameKey yX8_nameKey, Cond.methodLink "EvenFerry$Parser" 142 yX8_nameKey, Cond.fieldLink "EvenFerry$Parser" 146 "EvenFerry$River" "choosers" "I", Cond.fieldLink "EvenFerry$Parser" 149 "EvenFerry$River" "laws" "I", Cond.instanceMethod yX5_chain, Cond.selects "EvenFerry$Parser" yX5_chain yX5_chain, Cond.methodLink "EvenFerry$Parser" 152 yX5_chain, Cond.fieldLink "EvenFerry$Parser" 27 "EvenFerry$Parser" "written" "I", Cond.instanceMethod yX6_endLaw, Cond.selects "EvenFerry$River" yX6_endLaw yX6_endLaw, Cond.methodLink "EvenFerry$Parser" 156 yX6_endLaw, Cond.instanceMethod yX5_part, Cond.selects "EvenFerry$Parser" yX5_part yX5_part, Cond.methodLink "EvenFerry$Parser" 163 yX5_part, Cond.methodLink "EvenFerry$Parser" 166 yX5_levelOf, Cond.static yX5_levelOf, Cond.instanceMethod yX5_write, Cond.selects "EvenFerry$Parser" yX5_write yX5_write, Cond.methodLink "EvenFerry$Parser" 169 yX5_write, Cond.fieldLink "EvenFerry$Parser" 172 "EvenFerry$River" "timedLaws" "I", Cond.methodLink "EvenFerry$Day" 3 Lib.objectInit, Cond.fieldLink "EvenFerry$Day" 9 "EvenFerry$Day" "boatBack" "[I", Cond.fieldLink "EvenFerry$Day" 15 "EvenFerry$Day" "facts" "[I", Cond.fieldLink "EvenFerry$Day" 18 "EvenFerry$Day" "stack" "[I", Cond.methodLink "EvenFerry$Day" 21 Lib.Math.max.name, Cond.methodLink "EvenFerry$Day" 29 yX0_init, Cond.instanceMethod yX0_init, Cond.fieldLink "EvenFerry$Day" 32 "EvenFerry$Day" "left" "LEvenFerry$Bank;", Cond.fieldLink "EvenFerry$Day" 36 "EvenFerry$Day" "right" "LEvenFerry$Bank;", Cond.fieldLink "EvenFerry$Day" 39 "EvenFerry$Day" "goesAt" "[I", Cond.fieldLink "EvenFerry$Day" 42 "EvenFerry$Day" "goesBy" "[I", Cond.fieldLink "EvenFerry$Day" 45 "EvenFerry$Day" "ringMinutes" "[I", Cond.fieldLink "EvenFerry$Day" 48 "EvenFerry$Day" "fromLeft" "[I", Cond.fieldLink "EvenFerry$Day" 51 "EvenFerry$Day" "fromRight" "[I", Cond.fieldLink "EvenFerry$Day" 54 "EvenFerry$Day" "river" "LEvenFerry$River;", Cond.fieldLink "EvenFerry$Day" 58 "EvenFerry$River" "people" "LEvenFerry$Crowd;", Cond.fieldLink "EvenFerry$Day" 64 "EvenFerry$Day" "crowd" "LEvenFerry$Crowd;", Cond.fieldLink "EvenFerry$Day" 67 "EvenFerry$Crowd" "sides" "[I"]
set_option maxRecDepth 100000 in
theorem wl2_e : wl2 = [732, 191, 195, 200, 204, 208, 212, 179, 159, 778, 18, 776, 787, 19, 785, 791, 20, 789, 794, 795, 793, 781, 782, 780, 215, 220, 753, 14, 751, 292, 768, 769, 767, 757, 15, 755, 764, 765, 761, 16, 759, 222, 350, 394, 395, 396, 351, 354, 355, 382, 383, 384, 385, 388, 390, 392, 401, 176, 402, 142].filterMap (fun i => lw_tbl[i]?) := by decide +kernel
set_option maxRecDepth 100000 in
theorem wl2_g : wl2.all goodWord = true := by decide +kernel
theorem wl2_m {x : Cond} (i : Nat) (h : wl2[i]? = some x) : x ∈ am_big := am_wl wl2_e wl2_g (List.mem_of_getElem? h)
theorem wd_134 : Cond.methodLink "EvenFerry$Parser" 99 yX5_number ∈ am_big := wl2_m 0 rfl
theorem wd_135 : Cond.fieldLink "EvenFerry$Parser" 102 "EvenFerry$River" "room" "I" ∈ am_big := wl2_m 1 rfl
theorem wd_136 : Cond.fieldLink "EvenFerry$Parser" 105 "EvenFerry$River" "trip" "I" ∈ am_big := wl2_m 2 rfl
theorem wd_137 : Cond.fieldLink "EvenFerry$Parser" 108 "EvenFerry$River" "boats" "I" ∈ am_big := wl2_m 3 rfl
theorem wd_138 : Cond.fieldLink "EvenFerry$Parser" 111 "EvenFerry$River" "first" "I" ∈ am_big := wl2_m 4 rfl
theorem wd_139 : Cond.fieldLink "EvenFerry$Parser" 114 "EvenFerry$River" "second" "I" ∈ am_big := wl2_m 5 rfl
theorem wd_140 : Cond.fieldLink "EvenFerry$Parser" 117 "EvenFerry$River" "come" "I" ∈ am_big := wl2_m 6 rfl
theorem wd_141 : Cond.fieldLink "EvenFerry$Parser" 120 "EvenFerry$River" "people" "LEvenFerry$Crowd;" ∈ am_big := wl2_m 7 rfl
theorem wd_142 : Cond.fieldLink "EvenFerry$Parser" 124 "EvenFerry$Crowd" "size" "I" ∈ am_big := wl2_m 8 rfl
theorem wd_143 : Cond.instanceMethod yX5_name ∈ am_big := wl2_m 9 rfl
theorem wd_144 : Cond.selects "EvenFerry$Parser" yX5_name yX5_name ∈ am_big := wl2_m 10 rfl
theorem wd_145 : Cond.methodLink "EvenFerry$Parser" 129 yX5_name ∈ am_big := wl2_m 11 rfl
theorem wd_146 : Cond.instanceMethod yX5_sideWord ∈ am_big := wl2_m 12 rfl
theorem wd_147 : Cond.selects "EvenFerry$Parser" yX5_sideWord yX5_sideWord ∈ am_big := wl2_m 13 rfl
theorem wd_148 : Cond.methodLink "EvenFerry$Parser" 132 yX5_sideWord ∈ am_big := wl2_m 14 rfl
theorem wd_149 : Cond.instanceMethod yX5_kindWord ∈ am_big := wl2_m 15 rfl
theorem wd_150 : Cond.selects "EvenFerry$Parser" yX5_kindWord yX5_kindWord ∈ am_big := wl2_m 16 rfl
theorem wd_151 : Cond.methodLink "EvenFerry$Parser" 135 yX5_kindWord ∈ am_big := wl2_m 17 rfl
theorem wd_152 : Cond.instanceMethod yX6_addPerson ∈ am_big := wl2_m 18 rfl
theorem wd_153 : Cond.selects "EvenFerry$River" yX6_addPerson yX6_addPerson ∈ am_big := wl2_m 19 rfl
theorem wd_154 : Cond.methodLink "EvenFerry$Parser" 138 yX6_addPerson ∈ am_big := wl2_m 20 rfl
theorem wd_155 : Cond.instanceMethod yX8_nameKey ∈ am_big := wl2_m 21 rfl
theorem wd_156 : Cond.selects "EvenFerry$Tape" yX8_nameKey yX8_nameKey ∈ am_big := wl2_m 22 rfl
theorem wd_157 : Cond.methodLink "EvenFerry$Parser" 142 yX8_nameKey ∈ am_big := wl2_m 23 rfl
theorem wd_158 : Cond.fieldLink "EvenFerry$Parser" 146 "EvenFerry$River" "choosers" "I" ∈ am_big := wl2_m 24 rfl
theorem wd_159 : Cond.fieldLink "EvenFerry$Parser" 149 "EvenFerry$River" "laws" "I" ∈ am_big := wl2_m 25 rfl
theorem wd_160 : Cond.instanceMethod yX5_chain ∈ am_big := wl2_m 26 rfl
theorem wd_161 : Cond.selects "EvenFerry$Parser" yX5_chain yX5_chain ∈ am_big := wl2_m 27 rfl
theorem wd_162 : Cond.methodLink "EvenFerry$Parser" 152 yX5_chain ∈ am_big := wl2_m 28 rfl
theorem wd_163 : Cond.fieldLink "EvenFerry$Parser" 27 "EvenFerry$Parser" "written" "I" ∈ am_big := wl2_m 29 rfl
theorem wd_164 : Cond.instanceMethod yX6_endLaw ∈ am_big := wl2_m 30 rfl
theorem wd_165 : Cond.selects "EvenFerry$River" yX6_endLaw yX6_endLaw ∈ am_big := wl2_m 31 rfl
theorem wd_166 : Cond.methodLink "EvenFerry$Parser" 156 yX6_endLaw ∈ am_big := wl2_m 32 rfl
theorem wd_168 : Cond.instanceMethod yX5_part ∈ am_big := wl2_m 33 rfl
theorem wd_169 : Cond.selects "EvenFerry$Parser" yX5_part yX5_part ∈ am_big := wl2_m 34 rfl
theorem wd_170 : Cond.methodLink "EvenFerry$Parser" 163 yX5_part ∈ am_big := wl2_m 35 rfl
theorem wd_171 : Cond.methodLink "EvenFerry$Parser" 166 yX5_levelOf ∈ am_big := wl2_m 36 rfl
theorem wd_172 : Cond.static yX5_levelOf ∈ am_big := wl2_m 37 rfl
theorem wd_173 : Cond.instanceMethod yX5_write ∈ am_big := wl2_m 38 rfl
theorem wd_174 : Cond.selects "EvenFerry$Parser" yX5_write yX5_write ∈ am_big := wl2_m 39 rfl
theorem wd_175 : Cond.methodLink "EvenFerry$Parser" 169 yX5_write ∈ am_big := wl2_m 40 rfl
theorem wd_176 : Cond.fieldLink "EvenFerry$Parser" 172 "EvenFerry$River" "timedLaws" "I" ∈ am_big := wl2_m 41 rfl
theorem wd_177 : Cond.methodLink "EvenFerry$Day" 3 Lib.objectInit ∈ am_big := wl2_m 42 rfl
theorem wd_178 : Cond.fieldLink "EvenFerry$Day" 9 "EvenFerry$Day" "boatBack" "[I" ∈ am_big := wl2_m 43 rfl
theorem wd_179 : Cond.fieldLink "EvenFerry$Day" 15 "EvenFerry$Day" "facts" "[I" ∈ am_big := wl2_m 44 rfl
theorem wd_180 : Cond.fieldLink "EvenFerry$Day" 18 "EvenFerry$Day" "stack" "[I" ∈ am_big := wl2_m 45 rfl
theorem wd_181 : Cond.methodLink "EvenFerry$Day" 21 Lib.Math.max.name ∈ am_big := wl2_m 46 rfl
theorem wd_182 : Cond.methodLink "EvenFerry$Day" 29 yX0_init ∈ am_big := wl2_m 47 rfl
theorem wd_183 : Cond.instanceMethod yX0_init ∈ am_big := wl2_m 48 rfl
theorem wd_184 : Cond.fieldLink "EvenFerry$Day" 32 "EvenFerry$Day" "left" "LEvenFerry$Bank;" ∈ am_big := wl2_m 49 rfl
theorem wd_185 : Cond.fieldLink "EvenFerry$Day" 36 "EvenFerry$Day" "right" "LEvenFerry$Bank;" ∈ am_big := wl2_m 50 rfl
theorem wd_186 : Cond.fieldLink "EvenFerry$Day" 39 "EvenFerry$Day" "goesAt" "[I" ∈ am_big := wl2_m 51 rfl
theorem wd_187 : Cond.fieldLink "EvenFerry$Day" 42 "EvenFerry$Day" "goesBy" "[I" ∈ am_big := wl2_m 52 rfl
theorem wd_188 : Cond.fieldLink "EvenFerry$Day" 45 "EvenFerry$Day" "ringMinutes" "[I" ∈ am_big := wl2_m 53 rfl
theorem wd_189 : Cond.fieldLink "EvenFerry$Day" 48 "EvenFerry$Day" "fromLeft" "[I" ∈ am_big := wl2_m 54 rfl
theorem wd_190 : Cond.fieldLink "EvenFerry$Day" 51 "EvenFerry$Day" "fromRight" "[I" ∈ am_big := wl2_m 55 rfl
theorem wd_191 : Cond.fieldLink "EvenFerry$Day" 54 "EvenFerry$Day" "river" "LEvenFerry$River;" ∈ am_big := wl2_m 56 rfl
theorem wd_192 : Cond.fieldLink "EvenFerry$Day" 58 "EvenFerry$River" "people" "LEvenFerry$Crowd;" ∈ am_big := wl2_m 57 rfl
theorem wd_193 : Cond.fieldLink "EvenFerry$Day" 64 "EvenFerry$Day" "crowd" "LEvenFerry$Crowd;" ∈ am_big := wl2_m 58 rfl
theorem wd_194 : Cond.fieldLink "EvenFerry$Day" 67 "EvenFerry$Crowd" "sides" "[I" ∈ am_big := wl2_m 59 rfl
def wl3 : List Cond := [Cond.fieldLink "EvenFerry$Day" 72 "EvenFerry$Day" "sides" "[I", Cond.classLink "EvenFerry$Day" 27 "EvenFerry$Bank", Cond.instantiable "EvenFerry$Bank" 6, Cond.initialized "EvenFerry$Bank", Cond.fieldLink "EvenFerry$Day" 73 "EvenFerry$Day" "law" "I", Cond.fieldLink "EvenFerry$Day" 77 "EvenFerry$Crowd" "size" "I", Cond.instanceMethod yX0_empty, Cond.selects "EvenFerry$Bank" yX0_empty yX0_empty, Cond.methodLink "EvenFerry$Day" 84 yX0_empty, Cond.fieldLink "EvenFerry$Day" 87 "EvenFerry$Day" "ringings" "I", Cond.fieldLink "EvenFerry$Day" 90 "EvenFerry$Day" "next" "I", Cond.fieldLink "EvenFerry$Day" 93 "EvenFerry$Day" "leaver" "I", Cond.fieldLink "EvenFerry$Day" 96 "EvenFerry$Day" "leaving" "I", Cond.instanceMethod yX0_leave, Cond.selects "EvenFerry$Bank" yX0_leave yX0_leave, Cond.methodLink "EvenFerry$Day" 99 yX0_leave, Cond.instanceMethod yX3_come, Cond.selects "EvenFerry$Day" yX3_come yX3_come, Cond.methodLink "EvenFerry$Day" 103 yX3_come, Cond.instanceMethod yX3_soonest, Cond.selects "EvenFerry$Day" yX3_soonest yX3_soonest, Cond.methodLink "EvenFerry$Day" 113 yX3_soonest, Cond.instanceMethod yX3_wouldRing, Cond.selects "EvenFerry$Day" yX3_wouldRing yX3_wouldRing, Cond.methodLink "EvenFerry$Day" 106 yX3_wouldRing, Cond.instanceMethod yX3_goOver, Cond.selects "EvenFerry$Day" yX3_goOver yX3_goOver, Cond.methodLink "EvenFerry$Day" 110 yX3_goOver, Cond.instanceMethod yX2_timeAt, Cond.selects "EvenFerry$Crowd" yX2_timeAt yX2_timeAt, Cond.methodLink "EvenFerry$Day" 117 yX2_timeAt, Cond.methodLink "EvenFerry$Day" 120 Lib.Math.min.name, Cond.fieldLink "EvenFerry$Day" 123 "EvenFerry$River" "boats" "I", Cond.instanceMethod yX3_firstHolding, Cond.selects "EvenFerry$Day" yX3_firstHolding yX3_firstHolding, Cond.methodLink "EvenFerry$Day" 136 yX3_firstHolding, Cond.instanceMethod yX6_isTimed, Cond.selects "EvenFerry$River" yX6_isTimed yX6_isTimed, Cond.methodLink "EvenFerry$Day" 130 yX6_isTimed, Cond.instanceMethod yX0_size, Cond.selects "EvenFerry$Bank" yX0_size yX0_size, Cond.methodLink "EvenFerry$Day" 133 yX0_size, Cond.instanceMethod yX3_gatherFacts, Cond.selects "EvenFerry$Day" yX3_gatherFacts yX3_gatherFacts, Cond.methodLink "EvenFerry$Day" 139 yX3_gatherFacts, Cond.instanceMethod yX6_lawValue, Cond.selects "EvenFerry$River" yX6_lawValue yX6_lawValue, Cond.methodLink "EvenFerry$Day" 142 yX6_lawValue, Cond.fieldLink "EvenFerry$Day" 146 "EvenFerry$Crowd" "order" "[I", Cond.instanceMethod yX3_bankOf, Cond.selects "EvenFerry$Day" yX3_bankOf yX3_bankOf, Cond.methodLink "EvenFerry$Day" 149 yX3_bankOf, Cond.instanceMethod yX0_join, Cond.selects "EvenFerry$Bank" yX0_join yX0_join, Cond.methodLink "EvenFerry$Day" 153 yX0_join, Cond.instanceMethod yX3_freeBoat, Cond.selects "EvenFerry$Day" yX3_freeBoat yX3_freeBoat, Cond.methodLink "EvenFerry$Day" 156 yX3_freeBoat, Cond.fieldLink "EvenFerry$Day" 159 "EvenFerry$Bank" "guests" "I", Cond.instanceMethod yX0_countWithGuests]
set_option maxRecDepth 100000 in
theorem wl3_e : wl3 = [403, 352, 353, 100, 404, 156, 858, 859, 857, 397, 400, 405, 406, 866, 867, 865, 876, 877, 875, 941, 942, 940, 893, 894, 892, 932, 933, 931, 880, 881, 879, 920, 199, 950, 29, 948, 945, 946, 944, 897, 898, 896, 906, 26, 904, 922, 923, 921, 153, 886, 24, 884, 889, 890, 888, 902, 25, 900, 368, 909].filterMap (fun i => lw_tbl[i]?) := by decide +kernel
set_option maxRecDepth 100000 in
theorem wl3_g : wl3.all goodWord = true := by decide +kernel
theorem wl3_m {x : Cond} (i : Nat) (h : wl3[i]? = some x) : x ∈ am_big := am_wl wl3_e wl3_g (List.mem_of_getElem? h)
theorem wd_195 : Cond.fieldLink "EvenFerry$Day" 72 "EvenFerry$Day" "sides" "[I" ∈ am_big := wl3_m 0 rfl
theorem wd_196 : Cond.classLink "EvenFerry$Day" 27 "EvenFerry$Bank" ∈ am_big := wl3_m 1 rfl
theorem wd_197 : Cond.instantiable "EvenFerry$Bank" 6 ∈ am_big := wl3_m 2 rfl
theorem wd_198 : Cond.initialized "EvenFerry$Bank" ∈ am_big := wl3_m 3 rfl
theorem wd_199 : Cond.fieldLink "EvenFerry$Day" 73 "EvenFerry$Day" "law" "I" ∈ am_big := wl3_m 4 rfl
theorem wd_200 : Cond.fieldLink "EvenFerry$Day" 77 "EvenFerry$Crowd" "size" "I" ∈ am_big := wl3_m 5 rfl
theorem wd_202 : Cond.instanceMethod yX0_empty ∈ am_big := wl3_m 6 rfl
theorem wd_203 : Cond.selects "EvenFerry$Bank" yX0_empty yX0_empty ∈ am_big := wl3_m 7 rfl
theorem wd_204 : Cond.methodLink "EvenFerry$Day" 84 yX0_empty ∈ am_big := wl3_m 8 rfl
theorem wd_205 : Cond.fieldLink "EvenFerry$Day" 87 "EvenFerry$Day" "ringings" "I" ∈ am_big := wl3_m 9 rfl
theorem wd_206 : Cond.fieldLink "EvenFerry$Day" 90 "EvenFerry$Day" "next" "I" ∈ am_big := wl3_m 10 rfl
theorem wd_207 : Cond.fieldLink "EvenFerry$Day" 93 "EvenFerry$Day" "leaver" "I" ∈ am_big := wl3_m 11 rfl
theorem wd_208 : Cond.fieldLink "EvenFerry$Day" 96 "EvenFerry$Day" "leaving" "I" ∈ am_big := wl3_m 12 rfl
theorem wd_209 : Cond.instanceMethod yX0_leave ∈ am_big := wl3_m 13 rfl
theorem wd_210 : Cond.selects "EvenFerry$Bank" yX0_leave yX0_leave ∈ am_big := wl3_m 14 rfl
theorem wd_211 : Cond.methodLink "EvenFerry$Day" 99 yX0_leave ∈ am_big := wl3_m 15 rfl
theorem wd_212 : Cond.instanceMethod yX3_come ∈ am_big := wl3_m 16 rfl
theorem wd_213 : Cond.selects "EvenFerry$Day" yX3_come yX3_come ∈ am_big := wl3_m 17 rfl
theorem wd_214 : Cond.methodLink "EvenFerry$Day" 103 yX3_come ∈ am_big := wl3_m 18 rfl
theorem wd_215 : Cond.instanceMethod yX3_soonest ∈ am_big := wl3_m 19 rfl
theorem wd_216 : Cond.selects "EvenFerry$Day" yX3_soonest yX3_soonest ∈ am_big := wl3_m 20 rfl
theorem wd_217 : Cond.methodLink "EvenFerry$Day" 113 yX3_soonest ∈ am_big := wl3_m 21 rfl
theorem wd_218 : Cond.instanceMethod yX3_wouldRing ∈ am_big := wl3_m 22 rfl
theorem wd_219 : Cond.selects "EvenFerry$Day" yX3_wouldRing yX3_wouldRing ∈ am_big := wl3_m 23 rfl
theorem wd_220 : Cond.methodLink "EvenFerry$Day" 106 yX3_wouldRing ∈ am_big := wl3_m 24 rfl
theorem wd_221 : Cond.instanceMethod yX3_goOver ∈ am_big := wl3_m 25 rfl
theorem wd_222 : Cond.selects "EvenFerry$Day" yX3_goOver yX3_goOver ∈ am_big := wl3_m 26 rfl
theorem wd_223 : Cond.methodLink "EvenFerry$Day" 110 yX3_goOver ∈ am_big := wl3_m 27 rfl
theorem wd_224 : Cond.instanceMethod yX2_timeAt ∈ am_big := wl3_m 28 rfl
theorem wd_225 : Cond.selects "EvenFerry$Crowd" yX2_timeAt yX2_timeAt ∈ am_big := wl3_m 29 rfl
theorem wd_226 : Cond.methodLink "EvenFerry$Day" 117 yX2_timeAt ∈ am_big := wl3_m 30 rfl
theorem wd_227 : Cond.methodLink "EvenFerry$Day" 120 Lib.Math.min.name ∈ am_big := wl3_m 31 rfl
theorem wd_228 : Cond.fieldLink "EvenFerry$Day" 123 "EvenFerry$River" "boats" "I" ∈ am_big := wl3_m 32 rfl
theorem wd_229 : Cond.instanceMethod yX3_firstHolding ∈ am_big := wl3_m 33 rfl
theorem wd_230 : Cond.selects "EvenFerry$Day" yX3_firstHolding yX3_firstHolding ∈ am_big := wl3_m 34 rfl
theorem wd_231 : Cond.methodLink "EvenFerry$Day" 136 yX3_firstHolding ∈ am_big := wl3_m 35 rfl
theorem wd_232 : Cond.instanceMethod yX6_isTimed ∈ am_big := wl3_m 36 rfl
theorem wd_233 : Cond.selects "EvenFerry$River" yX6_isTimed yX6_isTimed ∈ am_big := wl3_m 37 rfl
theorem wd_234 : Cond.methodLink "EvenFerry$Day" 130 yX6_isTimed ∈ am_big := wl3_m 38 rfl
theorem wd_235 : Cond.instanceMethod yX0_size ∈ am_big := wl3_m 39 rfl
theorem wd_236 : Cond.selects "EvenFerry$Bank" yX0_size yX0_size ∈ am_big := wl3_m 40 rfl
theorem wd_237 : Cond.methodLink "EvenFerry$Day" 133 yX0_size ∈ am_big := wl3_m 41 rfl
theorem wd_239 : Cond.instanceMethod yX3_gatherFacts ∈ am_big := wl3_m 42 rfl
theorem wd_240 : Cond.selects "EvenFerry$Day" yX3_gatherFacts yX3_gatherFacts ∈ am_big := wl3_m 43 rfl
theorem wd_241 : Cond.methodLink "EvenFerry$Day" 139 yX3_gatherFacts ∈ am_big := wl3_m 44 rfl
theorem wd_242 : Cond.instanceMethod yX6_lawValue ∈ am_big := wl3_m 45 rfl
theorem wd_243 : Cond.selects "EvenFerry$River" yX6_lawValue yX6_lawValue ∈ am_big := wl3_m 46 rfl
theorem wd_244 : Cond.methodLink "EvenFerry$Day" 142 yX6_lawValue ∈ am_big := wl3_m 47 rfl
theorem wd_245 : Cond.fieldLink "EvenFerry$Day" 146 "EvenFerry$Crowd" "order" "[I" ∈ am_big := wl3_m 48 rfl
theorem wd_246 : Cond.instanceMethod yX3_bankOf ∈ am_big := wl3_m 49 rfl
theorem wd_247 : Cond.selects "EvenFerry$Day" yX3_bankOf yX3_bankOf ∈ am_big := wl3_m 50 rfl
theorem wd_248 : Cond.methodLink "EvenFerry$Day" 149 yX3_bankOf ∈ am_big := wl3_m 51 rfl
theorem wd_249 : Cond.instanceMethod yX0_join ∈ am_big := wl3_m 52 rfl
theorem wd_250 : Cond.selects "EvenFerry$Bank" yX0_join yX0_join ∈ am_big := wl3_m 53 rfl
theorem wd_251 : Cond.methodLink "EvenFerry$Day" 153 yX0_join ∈ am_big := wl3_m 54 rfl
theorem wd_252 : Cond.instanceMethod yX3_freeBoat ∈ am_big := wl3_m 55 rfl
theorem wd_253 : Cond.selects "EvenFerry$Day" yX3_freeBoat yX3_freeBoat ∈ am_big := wl3_m 56 rfl
theorem wd_254 : Cond.methodLink "EvenFerry$Day" 156 yX3_freeBoat ∈ am_big := wl3_m 57 rfl
theorem wd_255 : Cond.fieldLink "EvenFerry$Day" 159 "EvenFerry$Bank" "guests" "I" ∈ am_big := wl3_m 58 rfl
theorem wd_256 : Cond.instanceMethod yX0_countWithGuests ∈ am_big := wl3_m 59 rfl
def wl4 : List Cond := [Cond.selects "EvenFerry$Bank" yX0_countWithGuests yX0_countWithGuests, Cond.methodLink "EvenFerry$Day" 162 yX0_countWithGuests, Cond.instanceMethod yX0_loadWithGuests, Cond.selects "EvenFerry$Bank" yX0_loadWithGuests yX0_loadWithGuests, Cond.methodLink "EvenFerry$Day" 165 yX0_loadWithGuests, Cond.instanceMethod yX3_earliest, Cond.selects "EvenFerry$Day" yX3_earliest yX3_earliest, Cond.methodLink "EvenFerry$Day" 168 yX3_earliest, Cond.fieldLink "EvenFerry$Day" 172 "EvenFerry$Bank" "head" "I", Cond.fieldLink "EvenFerry$Day" 178 "EvenFerry$Bank" "row" "[I", Cond.fieldLink "EvenFerry$Day" 175 "EvenFerry$Bank" "tail" "I", Cond.fieldLink "EvenFerry$Day" 181 "EvenFerry$Crowd" "times" "[I", Cond.fieldLink "EvenFerry$Day" 184 "EvenFerry$River" "trip" "I", Cond.instanceMethod yX3_board, Cond.selects "EvenFerry$Day" yX3_board yX3_board, Cond.methodLink "EvenFerry$Day" 187 yX3_board, Cond.fieldLink "EvenFerry$Day" 190 "EvenFerry$River" "room" "I", Cond.methodLink "EvenFerry$Day" 193 yX0_leaveFirst, Cond.instanceMethod yX3_waitOf, Cond.selects "EvenFerry$Day" yX3_waitOf yX3_waitOf, Cond.methodLink "EvenFerry$Day" 197 yX3_waitOf, Cond.fieldLink "EvenFerry$Day" 200 "EvenFerry$River" "costs" "[I", Cond.instanceMethod yX3_costOf, Cond.selects "EvenFerry$Day" yX3_costOf yX3_costOf, Cond.methodLink "EvenFerry$Day" 203 yX3_costOf, Cond.methodLink "EvenFerry$Lots" 3 Lib.objectInit, Cond.methodLink "EvenFerry$Lots" 11 yX2_init, Cond.fieldLink "EvenFerry$Lots" 14 "EvenFerry$Lots" "crowd" "LEvenFerry$Crowd;", Cond.classLink "EvenFerry$Lots" 9 "EvenFerry$Crowd", Cond.fieldLink "EvenFerry$Lots" 20 "EvenFerry$Lots" "known" "Z", Cond.fieldLink "EvenFerry$Lots" 24 "EvenFerry$Lots" "knownSeed" "I", Cond.fieldLink "EvenFerry$Lots" 28 "EvenFerry$Lots" "knownDays" "I", Cond.fieldLink "EvenFerry$Lots" 31 "EvenFerry$Lots" "drawn" "J", Cond.fieldLink "EvenFerry$Lots" 35 "EvenFerry$Lots" "ringings" "I", Cond.fieldLink "EvenFerry$Lots" 38 "EvenFerry$Lots" "comers" "I", Cond.fieldLink "EvenFerry$Lots" 41 "EvenFerry$Lots" "waited" "I", Cond.fieldLink "EvenFerry$Lots" 44 "EvenFerry$Lots" "nights" "I", Cond.fieldLink "EvenFerry$Lots" 47 "EvenFerry$Lots" "longest" "I", Cond.fieldLink "EvenFerry$Lots" 50 "EvenFerry$State" "river" "LEvenFerry$River;", Cond.instanceMethod yX4_drawCrowd, Cond.selects "EvenFerry$Lots" yX4_drawCrowd yX4_drawCrowd, Cond.methodLink "EvenFerry$Lots" 56 yX4_drawCrowd, Cond.fieldLink "EvenFerry$Lots" 60 "EvenFerry$State" "law" "I", Cond.fieldLink "EvenFerry$Lots" 63 "EvenFerry$Crowd" "sides" "[I", Cond.instanceMethod yX3_begin, Cond.selects "EvenFerry$Day" yX3_begin yX3_begin, Cond.methodLink "EvenFerry$Lots" 67 yX3_begin, Cond.instanceMethod yX3_run, Cond.selects "EvenFerry$Day" yX3_run yX3_run, Cond.methodLink "EvenFerry$Lots" 73 yX3_run, Cond.instanceMethod yX4_addUp, Cond.selects "EvenFerry$Lots" yX4_addUp yX4_addUp, Cond.methodLink "EvenFerry$Lots" 76 yX4_addUp, Cond.fieldLink "EvenFerry$Lots" 80 "EvenFerry$Crowd" "size" "I", Cond.instanceMethod yX4_draw, Cond.selects "EvenFerry$Lots" yX4_draw yX4_draw, Cond.methodLink "EvenFerry$Lots" 83 yX4_draw, Cond.fieldLink "EvenFerry$Lots" 87 "EvenFerry$River" "come" "I", Cond.fieldLink "EvenFerry$Lots" 92 "EvenFerry$River" "second" "I", Cond.fieldLink "EvenFerry$Lots" 95 "EvenFerry$River" "first" "I"]
set_option maxRecDepth 100000 in
theorem wl4_e : wl4 = [910, 908, 913, 914, 912, 918, 27, 916, 362, 360, 364, 140, 196, 937, 28, 935, 192, 939, 961, 962, 976, 182, 973, 974, 972, 483, 485, 486, 484, 487, 489, 490, 501, 491, 493, 495, 497, 499, 324, 1150, 41, 1148, 328, 144, 853, 854, 1161, 862, 863, 1162, 1165, 43, 1163, 158, 1154, 42, 1152, 211, 207, 203].filterMap (fun i => lw_tbl[i]?) := by decide +kernel
set_option maxRecDepth 100000 in
theorem wl4_g : wl4.all goodWord = true := by decide +kernel
theorem wl4_m {x : Cond} (i : Nat) (h : wl4[i]? = some x) : x ∈ am_big := am_wl wl4_e wl4_g (List.mem_of_getElem? h)
theorem wd_257 : Cond.selects "EvenFerry$Bank" yX0_countWithGuests yX0_countWithGuests ∈ am_big := wl4_m 0 rfl
theorem wd_258 : Cond.methodLink "EvenFerry$Day" 162 yX0_countWithGuests ∈ am_big := wl4_m 1 rfl
theorem wd_259 : Cond.instanceMethod yX0_loadWithGuests ∈ am_big := wl4_m 2 rfl
theorem wd_260 : Cond.selects "EvenFerry$Bank" yX0_loadWithGuests yX0_loadWithGuests ∈ am_big := wl4_m 3 rfl
theorem wd_261 : Cond.methodLink "EvenFerry$Day" 165 yX0_loadWithGuests ∈ am_big := wl4_m 4 rfl
theorem wd_262 : Cond.instanceMethod yX3_earliest ∈ am_big := wl4_m 5 rfl
theorem wd_263 : Cond.selects "EvenFerry$Day" yX3_earliest yX3_earliest ∈ am_big := wl4_m 6 rfl
theorem wd_264 : Cond.methodLink "EvenFerry$Day" 168 yX3_earliest ∈ am_big := wl4_m 7 rfl
theorem wd_265 : Cond.fieldLink "EvenFerry$Day" 172 "EvenFerry$Bank" "head" "I" ∈ am_big := wl4_m 8 rfl
theorem wd_266 : Cond.fieldLink "EvenFerry$Day" 178 "EvenFerry$Bank" "row" "[I" ∈ am_big := wl4_m 9 rfl
theorem wd_267 : Cond.fieldLink "EvenFerry$Day" 175 "EvenFerry$Bank" "tail" "I" ∈ am_big := wl4_m 10 rfl
theorem wd_268 : Cond.fieldLink "EvenFerry$Day" 181 "EvenFerry$Crowd" "times" "[I" ∈ am_big := wl4_m 11 rfl
theorem wd_269 : Cond.fieldLink "EvenFerry$Day" 184 "EvenFerry$River" "trip" "I" ∈ am_big := wl4_m 12 rfl
theorem wd_270 : Cond.instanceMethod yX3_board ∈ am_big := wl4_m 13 rfl
theorem wd_271 : Cond.selects "EvenFerry$Day" yX3_board yX3_board ∈ am_big := wl4_m 14 rfl
theorem wd_272 : Cond.methodLink "EvenFerry$Day" 187 yX3_board ∈ am_big := wl4_m 15 rfl
theorem wd_273 : Cond.fieldLink "EvenFerry$Day" 190 "EvenFerry$River" "room" "I" ∈ am_big := wl4_m 16 rfl
theorem wd_274 : Cond.methodLink "EvenFerry$Day" 193 yX0_leaveFirst ∈ am_big := wl4_m 17 rfl
theorem wd_275 : Cond.instanceMethod yX3_waitOf ∈ am_big := wl4_m 18 rfl
theorem wd_276 : Cond.selects "EvenFerry$Day" yX3_waitOf yX3_waitOf ∈ am_big := wl4_m 19 rfl
theorem wd_277 : Cond.methodLink "EvenFerry$Day" 197 yX3_waitOf ∈ am_big := wl4_m 20 rfl
theorem wd_278 : Cond.fieldLink "EvenFerry$Day" 200 "EvenFerry$River" "costs" "[I" ∈ am_big := wl4_m 21 rfl
theorem wd_279 : Cond.instanceMethod yX3_costOf ∈ am_big := wl4_m 22 rfl
theorem wd_280 : Cond.selects "EvenFerry$Day" yX3_costOf yX3_costOf ∈ am_big := wl4_m 23 rfl
theorem wd_281 : Cond.methodLink "EvenFerry$Day" 203 yX3_costOf ∈ am_big := wl4_m 24 rfl
theorem wd_282 : Cond.methodLink "EvenFerry$Lots" 3 Lib.objectInit ∈ am_big := wl4_m 25 rfl
theorem wd_283 : Cond.methodLink "EvenFerry$Lots" 11 yX2_init ∈ am_big := wl4_m 26 rfl
theorem wd_284 : Cond.fieldLink "EvenFerry$Lots" 14 "EvenFerry$Lots" "crowd" "LEvenFerry$Crowd;" ∈ am_big := wl4_m 27 rfl
theorem wd_285 : Cond.classLink "EvenFerry$Lots" 9 "EvenFerry$Crowd" ∈ am_big := wl4_m 28 rfl
theorem wd_286 : Cond.fieldLink "EvenFerry$Lots" 20 "EvenFerry$Lots" "known" "Z" ∈ am_big := wl4_m 29 rfl
theorem wd_287 : Cond.fieldLink "EvenFerry$Lots" 24 "EvenFerry$Lots" "knownSeed" "I" ∈ am_big := wl4_m 30 rfl
theorem wd_288 : Cond.fieldLink "EvenFerry$Lots" 28 "EvenFerry$Lots" "knownDays" "I" ∈ am_big := wl4_m 31 rfl
theorem wd_289 : Cond.fieldLink "EvenFerry$Lots" 31 "EvenFerry$Lots" "drawn" "J" ∈ am_big := wl4_m 32 rfl
theorem wd_290 : Cond.fieldLink "EvenFerry$Lots" 35 "EvenFerry$Lots" "ringings" "I" ∈ am_big := wl4_m 33 rfl
theorem wd_291 : Cond.fieldLink "EvenFerry$Lots" 38 "EvenFerry$Lots" "comers" "I" ∈ am_big := wl4_m 34 rfl
theorem wd_292 : Cond.fieldLink "EvenFerry$Lots" 41 "EvenFerry$Lots" "waited" "I" ∈ am_big := wl4_m 35 rfl
theorem wd_293 : Cond.fieldLink "EvenFerry$Lots" 44 "EvenFerry$Lots" "nights" "I" ∈ am_big := wl4_m 36 rfl
theorem wd_294 : Cond.fieldLink "EvenFerry$Lots" 47 "EvenFerry$Lots" "longest" "I" ∈ am_big := wl4_m 37 rfl
theorem wd_295 : Cond.fieldLink "EvenFerry$Lots" 50 "EvenFerry$State" "river" "LEvenFerry$River;" ∈ am_big := wl4_m 38 rfl
theorem wd_296 : Cond.instanceMethod yX4_drawCrowd ∈ am_big := wl4_m 39 rfl
theorem wd_297 : Cond.selects "EvenFerry$Lots" yX4_drawCrowd yX4_drawCrowd ∈ am_big := wl4_m 40 rfl
theorem wd_298 : Cond.methodLink "EvenFerry$Lots" 56 yX4_drawCrowd ∈ am_big := wl4_m 41 rfl
theorem wd_299 : Cond.fieldLink "EvenFerry$Lots" 60 "EvenFerry$State" "law" "I" ∈ am_big := wl4_m 42 rfl
theorem wd_300 : Cond.fieldLink "EvenFerry$Lots" 63 "EvenFerry$Crowd" "sides" "[I" ∈ am_big := wl4_m 43 rfl
theorem wd_301 : Cond.instanceMethod yX3_begin ∈ am_big := wl4_m 44 rfl
theorem wd_302 : Cond.selects "EvenFerry$Day" yX3_begin yX3_begin ∈ am_big := wl4_m 45 rfl
theorem wd_303 : Cond.methodLink "EvenFerry$Lots" 67 yX3_begin ∈ am_big := wl4_m 46 rfl
theorem wd_304 : Cond.instanceMethod yX3_run ∈ am_big := wl4_m 47 rfl
theorem wd_305 : Cond.selects "EvenFerry$Day" yX3_run yX3_run ∈ am_big := wl4_m 48 rfl
theorem wd_306 : Cond.methodLink "EvenFerry$Lots" 73 yX3_run ∈ am_big := wl4_m 49 rfl
theorem wd_307 : Cond.instanceMethod yX4_addUp ∈ am_big := wl4_m 50 rfl
theorem wd_308 : Cond.selects "EvenFerry$Lots" yX4_addUp yX4_addUp ∈ am_big := wl4_m 51 rfl
theorem wd_309 : Cond.methodLink "EvenFerry$Lots" 76 yX4_addUp ∈ am_big := wl4_m 52 rfl
theorem wd_310 : Cond.fieldLink "EvenFerry$Lots" 80 "EvenFerry$Crowd" "size" "I" ∈ am_big := wl4_m 53 rfl
theorem wd_311 : Cond.instanceMethod yX4_draw ∈ am_big := wl4_m 54 rfl
theorem wd_312 : Cond.selects "EvenFerry$Lots" yX4_draw yX4_draw ∈ am_big := wl4_m 55 rfl
theorem wd_313 : Cond.methodLink "EvenFerry$Lots" 83 yX4_draw ∈ am_big := wl4_m 56 rfl
theorem wd_314 : Cond.fieldLink "EvenFerry$Lots" 87 "EvenFerry$River" "come" "I" ∈ am_big := wl4_m 57 rfl
theorem wd_315 : Cond.fieldLink "EvenFerry$Lots" 92 "EvenFerry$River" "second" "I" ∈ am_big := wl4_m 58 rfl
theorem wd_316 : Cond.fieldLink "EvenFerry$Lots" 95 "EvenFerry$River" "first" "I" ∈ am_big := wl4_m 59 rfl
def wl5 : List Cond := [Cond.methodLink "EvenFerry$Lots" 98 yX2_add, Cond.constantLong "EvenFerry$Lots" 102 1103515245, Cond.constantLong "EvenFerry$Lots" 104 12345, Cond.constantLong "EvenFerry$Lots" 106 2147483648, Cond.constantLong "EvenFerry$Lots" 108 65536, Cond.fieldLink "EvenFerry$Lots" 110 "EvenFerry$Day" "ringings" "I", Cond.methodLink "EvenFerry$Lots" 111 yX3_waitOf, Cond.methodLink "EvenFerry$Lots" 114 Lib.Math.max.name, Cond.fieldLink "EvenFerry$Lots" 120 "EvenFerry$Day" "goesBy" "[I", Cond.methodLink "EvenFerry$Choices" 3 Lib.objectInit, Cond.fieldLink "EvenFerry$Choices" 9 "EvenFerry$Choices" "costs" "[I", Cond.fieldLink "EvenFerry$Choices" 15 "EvenFerry$Choices" "ownCosts" "[I", Cond.fieldLink "EvenFerry$Choices" 18 "EvenFerry$Choices" "restBits" "[I", Cond.fieldLink "EvenFerry$Choices" 21 "EvenFerry$Choices" "sides" "[I", Cond.fieldLink "EvenFerry$Choices" 24 "EvenFerry$Choices" "known" "Z", Cond.fieldLink "EvenFerry$Choices" 28 "EvenFerry$State" "river" "LEvenFerry$River;", Cond.fieldLink "EvenFerry$Choices" 34 "EvenFerry$River" "choosers" "I", Cond.methodLink "EvenFerry$Choices" 40 Lib.Math.min.name, Cond.instanceMethod yX1_findCheapest, Cond.selects "EvenFerry$Choices" yX1_findCheapest yX1_findCheapest, Cond.methodLink "EvenFerry$Choices" 85 yX1_findCheapest, Cond.instanceMethod yX1_findResting, Cond.selects "EvenFerry$Choices" yX1_findResting yX1_findResting, Cond.methodLink "EvenFerry$Choices" 88 yX1_findResting, Cond.instanceMethod yX1_seat, Cond.selects "EvenFerry$Choices" yX1_seat yX1_seat, Cond.methodLink "EvenFerry$Choices" 46 yX1_seat, Cond.fieldLink "EvenFerry$Choices" 50 "EvenFerry$State" "law" "I", Cond.fieldLink "EvenFerry$Choices" 53 "EvenFerry$River" "people" "LEvenFerry$Crowd;", Cond.methodLink "EvenFerry$Choices" 57 yX3_begin, Cond.methodLink "EvenFerry$Choices" 63 yX3_run, Cond.instanceMethod yX3_costWithout, Cond.selects "EvenFerry$Day" yX3_costWithout yX3_costWithout, Cond.methodLink "EvenFerry$Choices" 67 yX3_costWithout, Cond.fieldLink "EvenFerry$Choices" 75 "EvenFerry$River" "chooserPersons" "[I", Cond.methodLink "EvenFerry$Choices" 82 yX3_costOf, Cond.fieldLink "EvenFerry$Choices" 92 "EvenFerry$Crowd" "size" "I", Cond.fieldLink "EvenFerry$Choices" 97 "EvenFerry$Crowd" "sides" "[I", Cond.fieldLink "EvenFerry$Choices" 98 "EvenFerry$Choices" "cheapest" "I", Cond.fieldLink "EvenFerry$Choices" 101 "EvenFerry$Choices" "resting" "I", Cond.instanceMethod yX1_isAtRest, Cond.selects "EvenFerry$Choices" yX1_isAtRest yX1_isAtRest, Cond.methodLink "EvenFerry$Choices" 104 yX1_isAtRest, Cond.methodLink "EvenFerry" 1 Lib.objectInit, Cond.instanceMethod yX6_init, Cond.instanceMethod yX8_init, Cond.fieldLink "EvenFerry" 13 "EvenFerry" "tape" "LEvenFerry$Tape;", Cond.methodLink "EvenFerry" 21 yX5_init, Cond.instanceMethod yX5_init, Cond.fieldLink "EvenFerry" 24 "EvenFerry" "parser" "LEvenFerry$Parser;", Cond.methodLink "EvenFerry" 30 yX7_init, Cond.instanceMethod yX7_init, Cond.fieldLink "EvenFerry" 33 "EvenFerry" "now" "LEvenFerry$State;", Cond.fieldLink "EvenFerry" 37 "EvenFerry" "marks" "[LEvenFerry$State;", Cond.classLink "EvenFerry" 28 "EvenFerry$State", Cond.instantiable "EvenFerry$State" 5, Cond.initialized "EvenFerry$State", Cond.classLink "EvenFerry" 19 "EvenFerry$Parser", Cond.instantiable "EvenFerry$Parser" 8, Cond.initialized "EvenFerry$Parser"]
set_option maxRecDepth 100000 in
theorem wl5_e : wl5 = [1160, 1156, 1157, 1158, 1159, 398, 1167, 1168, 386, 449, 450, 452, 453, 455, 461, 323, 213, 1046, 1059, 37, 1057, 1063, 38, 1061, 1048, 1049, 1047, 327, 177, 1053, 1054, 969, 970, 1055, 186, 1056, 157, 143, 457, 459, 1067, 39, 1065, 120, 126, 257, 523, 283, 284, 524, 316, 317, 525, 526, 314, 315, 98, 281, 282, 97].filterMap (fun i => lw_tbl[i]?) := by decide +kernel
set_option maxRecDepth 100000 in
theorem wl5_g : wl5.all goodWord = true := by decide +kernel
theorem wl5_m {x : Cond} (i : Nat) (h : wl5[i]? = some x) : x ∈ am_big := am_wl wl5_e wl5_g (List.mem_of_getElem? h)
theorem wd_317 : Cond.methodLink "EvenFerry$Lots" 98 yX2_add ∈ am_big := wl5_m 0 rfl
theorem wd_318 : Cond.constantLong "EvenFerry$Lots" 102 1103515245 ∈ am_big := wl5_m 1 rfl
theorem wd_319 : Cond.constantLong "EvenFerry$Lots" 104 12345 ∈ am_big := wl5_m 2 rfl
theorem wd_320 : Cond.constantLong "EvenFerry$Lots" 106 2147483648 ∈ am_big := wl5_m 3 rfl
theorem wd_321 : Cond.constantLong "EvenFerry$Lots" 108 65536 ∈ am_big := wl5_m 4 rfl
theorem wd_322 : Cond.fieldLink "EvenFerry$Lots" 110 "EvenFerry$Day" "ringings" "I" ∈ am_big := wl5_m 5 rfl
theorem wd_323 : Cond.methodLink "EvenFerry$Lots" 111 yX3_waitOf ∈ am_big := wl5_m 6 rfl
theorem wd_324 : Cond.methodLink "EvenFerry$Lots" 114 Lib.Math.max.name ∈ am_big := wl5_m 7 rfl
theorem wd_325 : Cond.fieldLink "EvenFerry$Lots" 120 "EvenFerry$Day" "goesBy" "[I" ∈ am_big := wl5_m 8 rfl
theorem wd_327 : Cond.methodLink "EvenFerry$Choices" 3 Lib.objectInit ∈ am_big := wl5_m 9 rfl
theorem wd_328 : Cond.fieldLink "EvenFerry$Choices" 9 "EvenFerry$Choices" "costs" "[I" ∈ am_big := wl5_m 10 rfl
theorem wd_329 : Cond.fieldLink "EvenFerry$Choices" 15 "EvenFerry$Choices" "ownCosts" "[I" ∈ am_big := wl5_m 11 rfl
theorem wd_330 : Cond.fieldLink "EvenFerry$Choices" 18 "EvenFerry$Choices" "restBits" "[I" ∈ am_big := wl5_m 12 rfl
theorem wd_331 : Cond.fieldLink "EvenFerry$Choices" 21 "EvenFerry$Choices" "sides" "[I" ∈ am_big := wl5_m 13 rfl
theorem wd_332 : Cond.fieldLink "EvenFerry$Choices" 24 "EvenFerry$Choices" "known" "Z" ∈ am_big := wl5_m 14 rfl
theorem wd_333 : Cond.fieldLink "EvenFerry$Choices" 28 "EvenFerry$State" "river" "LEvenFerry$River;" ∈ am_big := wl5_m 15 rfl
theorem wd_334 : Cond.fieldLink "EvenFerry$Choices" 34 "EvenFerry$River" "choosers" "I" ∈ am_big := wl5_m 16 rfl
theorem wd_335 : Cond.methodLink "EvenFerry$Choices" 40 Lib.Math.min.name ∈ am_big := wl5_m 17 rfl
theorem wd_336 : Cond.instanceMethod yX1_findCheapest ∈ am_big := wl5_m 18 rfl
theorem wd_337 : Cond.selects "EvenFerry$Choices" yX1_findCheapest yX1_findCheapest ∈ am_big := wl5_m 19 rfl
theorem wd_338 : Cond.methodLink "EvenFerry$Choices" 85 yX1_findCheapest ∈ am_big := wl5_m 20 rfl
theorem wd_339 : Cond.instanceMethod yX1_findResting ∈ am_big := wl5_m 21 rfl
theorem wd_340 : Cond.selects "EvenFerry$Choices" yX1_findResting yX1_findResting ∈ am_big := wl5_m 22 rfl
theorem wd_341 : Cond.methodLink "EvenFerry$Choices" 88 yX1_findResting ∈ am_big := wl5_m 23 rfl
theorem wd_342 : Cond.instanceMethod yX1_seat ∈ am_big := wl5_m 24 rfl
theorem wd_343 : Cond.selects "EvenFerry$Choices" yX1_seat yX1_seat ∈ am_big := wl5_m 25 rfl
theorem wd_344 : Cond.methodLink "EvenFerry$Choices" 46 yX1_seat ∈ am_big := wl5_m 26 rfl
theorem wd_345 : Cond.fieldLink "EvenFerry$Choices" 50 "EvenFerry$State" "law" "I" ∈ am_big := wl5_m 27 rfl
theorem wd_346 : Cond.fieldLink "EvenFerry$Choices" 53 "EvenFerry$River" "people" "LEvenFerry$Crowd;" ∈ am_big := wl5_m 28 rfl
theorem wd_347 : Cond.methodLink "EvenFerry$Choices" 57 yX3_begin ∈ am_big := wl5_m 29 rfl
theorem wd_348 : Cond.methodLink "EvenFerry$Choices" 63 yX3_run ∈ am_big := wl5_m 30 rfl
theorem wd_349 : Cond.instanceMethod yX3_costWithout ∈ am_big := wl5_m 31 rfl
theorem wd_350 : Cond.selects "EvenFerry$Day" yX3_costWithout yX3_costWithout ∈ am_big := wl5_m 32 rfl
theorem wd_351 : Cond.methodLink "EvenFerry$Choices" 67 yX3_costWithout ∈ am_big := wl5_m 33 rfl
theorem wd_353 : Cond.fieldLink "EvenFerry$Choices" 75 "EvenFerry$River" "chooserPersons" "[I" ∈ am_big := wl5_m 34 rfl
theorem wd_355 : Cond.methodLink "EvenFerry$Choices" 82 yX3_costOf ∈ am_big := wl5_m 35 rfl
theorem wd_356 : Cond.fieldLink "EvenFerry$Choices" 92 "EvenFerry$Crowd" "size" "I" ∈ am_big := wl5_m 36 rfl
theorem wd_357 : Cond.fieldLink "EvenFerry$Choices" 97 "EvenFerry$Crowd" "sides" "[I" ∈ am_big := wl5_m 37 rfl
theorem wd_358 : Cond.fieldLink "EvenFerry$Choices" 98 "EvenFerry$Choices" "cheapest" "I" ∈ am_big := wl5_m 38 rfl
theorem wd_359 : Cond.fieldLink "EvenFerry$Choices" 101 "EvenFerry$Choices" "resting" "I" ∈ am_big := wl5_m 39 rfl
theorem wd_360 : Cond.instanceMethod yX1_isAtRest ∈ am_big := wl5_m 40 rfl
theorem wd_361 : Cond.selects "EvenFerry$Choices" yX1_isAtRest yX1_isAtRest ∈ am_big := wl5_m 41 rfl
theorem wd_362 : Cond.methodLink "EvenFerry$Choices" 104 yX1_isAtRest ∈ am_big := wl5_m 42 rfl
theorem wd_363 : Cond.methodLink "EvenFerry" 1 Lib.objectInit ∈ am_big := wl5_m 43 rfl
theorem wd_365 : Cond.instanceMethod yX6_init ∈ am_big := wl5_m 44 rfl
theorem wd_367 : Cond.instanceMethod yX8_init ∈ am_big := wl5_m 45 rfl
theorem wd_368 : Cond.fieldLink "EvenFerry" 13 "EvenFerry" "tape" "LEvenFerry$Tape;" ∈ am_big := wl5_m 46 rfl
theorem wd_369 : Cond.methodLink "EvenFerry" 21 yX5_init ∈ am_big := wl5_m 47 rfl
theorem wd_370 : Cond.instanceMethod yX5_init ∈ am_big := wl5_m 48 rfl
theorem wd_371 : Cond.fieldLink "EvenFerry" 24 "EvenFerry" "parser" "LEvenFerry$Parser;" ∈ am_big := wl5_m 49 rfl
theorem wd_372 : Cond.methodLink "EvenFerry" 30 yX7_init ∈ am_big := wl5_m 50 rfl
theorem wd_373 : Cond.instanceMethod yX7_init ∈ am_big := wl5_m 51 rfl
theorem wd_374 : Cond.fieldLink "EvenFerry" 33 "EvenFerry" "now" "LEvenFerry$State;" ∈ am_big := wl5_m 52 rfl
theorem wd_375 : Cond.fieldLink "EvenFerry" 37 "EvenFerry" "marks" "[LEvenFerry$State;" ∈ am_big := wl5_m 53 rfl
theorem wd_376 : Cond.classLink "EvenFerry" 28 "EvenFerry$State" ∈ am_big := wl5_m 54 rfl
theorem wd_377 : Cond.instantiable "EvenFerry$State" 5 ∈ am_big := wl5_m 55 rfl
theorem wd_378 : Cond.initialized "EvenFerry$State" ∈ am_big := wl5_m 56 rfl
theorem wd_379 : Cond.classLink "EvenFerry" 19 "EvenFerry$Parser" ∈ am_big := wl5_m 57 rfl
theorem wd_380 : Cond.instantiable "EvenFerry$Parser" 8 ∈ am_big := wl5_m 58 rfl
theorem wd_381 : Cond.initialized "EvenFerry$Parser" ∈ am_big := wl5_m 59 rfl
def wl6 : List Cond := [Cond.classLink "EvenFerry" 10 "EvenFerry$Tape", Cond.instantiable "EvenFerry$Tape" 5, Cond.initialized "EvenFerry$Tape", Cond.classLink "EvenFerry" 7 "EvenFerry$River", Cond.instantiable "EvenFerry$River" 15, Cond.initialized "EvenFerry$River", Cond.methodLink "EvenFerry" 43 yX3_init, Cond.instanceMethod yX3_init, Cond.fieldLink "EvenFerry" 46 "EvenFerry" "day" "LEvenFerry$Day;", Cond.fieldLink "EvenFerry" 50 "EvenFerry" "trial" "LEvenFerry$Day;", Cond.instanceMethod yX1_init, Cond.fieldLink "EvenFerry" 56 "EvenFerry" "choices" "LEvenFerry$Choices;", Cond.instanceMethod yX4_init, Cond.fieldLink "EvenFerry" 63 "EvenFerry" "lots" "LEvenFerry$Lots;", Cond.classLink "EvenFerry" 60 "EvenFerry$Lots", Cond.instantiable "EvenFerry$Lots" 10, Cond.initialized "EvenFerry$Lots", Cond.classLink "EvenFerry" 53 "EvenFerry$Choices", Cond.instantiable "EvenFerry$Choices" 7, Cond.initialized "EvenFerry$Choices", Cond.classLink "EvenFerry" 41 "EvenFerry$Day", Cond.instantiable "EvenFerry$Day" 18, Cond.initialized "EvenFerry$Day", Cond.instanceMethod yX8_append, Cond.selects "EvenFerry$Tape" yX8_append yX8_append, Cond.methodLink "EvenFerry" 67 yX8_append, Cond.fieldLink "EvenFerry" 71 "EvenFerry$Tape" "length" "I", Cond.instanceMethod yX8_cut, Cond.selects "EvenFerry$Tape" yX8_cut yX8_cut, Cond.methodLink "EvenFerry" 75 yX8_cut, Cond.instanceMethod yX5_read, Cond.selects "EvenFerry$Parser" yX5_read yX5_read, Cond.methodLink "EvenFerry" 78 yX5_read, Cond.fieldLink "EvenFerry" 82 "EvenFerry$Parser" "river" "LEvenFerry$River;", Cond.instanceMethod yX7_start, Cond.selects "EvenFerry$State" yX7_start yX7_start, Cond.methodLink "EvenFerry" 86 yX7_start, Cond.instanceMethod yX9_forget, Cond.selects "EvenFerry" yX9_forget yX9_forget, Cond.methodLink "EvenFerry" 89 yX9_forget, Cond.fieldLink "EvenFerry" 92 "EvenFerry$State" "river" "LEvenFerry$River;", Cond.instanceMethod yX9_isPerson, Cond.selects "EvenFerry" yX9_isPerson yX9_isPerson, Cond.methodLink "EvenFerry" 93 yX9_isPerson, Cond.fieldLink "EvenFerry" 97 "EvenFerry$River" "people" "LEvenFerry$Crowd;", Cond.fieldLink "EvenFerry" 101 "EvenFerry$Crowd" "sides" "[I", Cond.methodLink "EvenFerry" 107 yX9_get, Cond.fieldLink "EvenFerry" 111 "EvenFerry$Crowd" "times" "[I", Cond.fieldLink "EvenFerry" 114 "EvenFerry$Crowd" "weights" "[I", Cond.fieldLink "EvenFerry" 117 "EvenFerry$River" "costs" "[I", Cond.fieldLink "EvenFerry" 120 "EvenFerry$River" "kinds" "[I", Cond.fieldLink "EvenFerry" 123 "EvenFerry$Crowd" "counts" "[I", Cond.fieldLink "EvenFerry" 126 "EvenFerry$River" "laws" "I", Cond.fieldLink "EvenFerry" 129 "EvenFerry$State" "law" "I", Cond.instanceMethod yX9_knowDay, Cond.selects "EvenFerry" yX9_knowDay yX9_knowDay, Cond.methodLink "EvenFerry" 132 yX9_knowDay, Cond.fieldLink "EvenFerry" 135 "EvenFerry$Day" "ringings" "I", Cond.fieldLink "EvenFerry" 138 "EvenFerry$Day" "ringMinutes" "[I", Cond.fieldLink "EvenFerry" 141 "EvenFerry$Day" "fromLeft" "[I"]
set_option maxRecDepth 100000 in
theorem wl6_e : wl6 = [254, 255, 96, 123, 124, 93, 347, 348, 527, 528, 447, 529, 481, 530, 478, 479, 102, 444, 445, 101, 345, 346, 99, 556, 557, 555, 265, 564, 565, 563, 709, 710, 708, 291, 823, 824, 822, 828, 21, 826, 325, 837, 22, 835, 178, 145, 839, 139, 148, 181, 184, 151, 219, 329, 850, 23, 848, 399, 389, 391].filterMap (fun i => lw_tbl[i]?) := by decide +kernel
set_option maxRecDepth 100000 in
theorem wl6_g : wl6.all goodWord = true := by decide +kernel
theorem wl6_m {x : Cond} (i : Nat) (h : wl6[i]? = some x) : x ∈ am_big := am_wl wl6_e wl6_g (List.mem_of_getElem? h)
theorem wd_382 : Cond.classLink "EvenFerry" 10 "EvenFerry$Tape" ∈ am_big := wl6_m 0 rfl
theorem wd_383 : Cond.instantiable "EvenFerry$Tape" 5 ∈ am_big := wl6_m 1 rfl
theorem wd_384 : Cond.initialized "EvenFerry$Tape" ∈ am_big := wl6_m 2 rfl
theorem wd_385 : Cond.classLink "EvenFerry" 7 "EvenFerry$River" ∈ am_big := wl6_m 3 rfl
theorem wd_386 : Cond.instantiable "EvenFerry$River" 15 ∈ am_big := wl6_m 4 rfl
theorem wd_387 : Cond.initialized "EvenFerry$River" ∈ am_big := wl6_m 5 rfl
theorem wd_388 : Cond.methodLink "EvenFerry" 43 yX3_init ∈ am_big := wl6_m 6 rfl
theorem wd_389 : Cond.instanceMethod yX3_init ∈ am_big := wl6_m 7 rfl
theorem wd_390 : Cond.fieldLink "EvenFerry" 46 "EvenFerry" "day" "LEvenFerry$Day;" ∈ am_big := wl6_m 8 rfl
theorem wd_391 : Cond.fieldLink "EvenFerry" 50 "EvenFerry" "trial" "LEvenFerry$Day;" ∈ am_big := wl6_m 9 rfl
theorem wd_393 : Cond.instanceMethod yX1_init ∈ am_big := wl6_m 10 rfl
theorem wd_394 : Cond.fieldLink "EvenFerry" 56 "EvenFerry" "choices" "LEvenFerry$Choices;" ∈ am_big := wl6_m 11 rfl
theorem wd_396 : Cond.instanceMethod yX4_init ∈ am_big := wl6_m 12 rfl
theorem wd_397 : Cond.fieldLink "EvenFerry" 63 "EvenFerry" "lots" "LEvenFerry$Lots;" ∈ am_big := wl6_m 13 rfl
theorem wd_398 : Cond.classLink "EvenFerry" 60 "EvenFerry$Lots" ∈ am_big := wl6_m 14 rfl
theorem wd_399 : Cond.instantiable "EvenFerry$Lots" 10 ∈ am_big := wl6_m 15 rfl
theorem wd_400 : Cond.initialized "EvenFerry$Lots" ∈ am_big := wl6_m 16 rfl
theorem wd_401 : Cond.classLink "EvenFerry" 53 "EvenFerry$Choices" ∈ am_big := wl6_m 17 rfl
theorem wd_402 : Cond.instantiable "EvenFerry$Choices" 7 ∈ am_big := wl6_m 18 rfl
theorem wd_403 : Cond.initialized "EvenFerry$Choices" ∈ am_big := wl6_m 19 rfl
theorem wd_404 : Cond.classLink "EvenFerry" 41 "EvenFerry$Day" ∈ am_big := wl6_m 20 rfl
theorem wd_405 : Cond.instantiable "EvenFerry$Day" 18 ∈ am_big := wl6_m 21 rfl
theorem wd_406 : Cond.initialized "EvenFerry$Day" ∈ am_big := wl6_m 22 rfl
theorem wd_407 : Cond.instanceMethod yX8_append ∈ am_big := wl6_m 23 rfl
theorem wd_408 : Cond.selects "EvenFerry$Tape" yX8_append yX8_append ∈ am_big := wl6_m 24 rfl
theorem wd_409 : Cond.methodLink "EvenFerry" 67 yX8_append ∈ am_big := wl6_m 25 rfl
theorem wd_410 : Cond.fieldLink "EvenFerry" 71 "EvenFerry$Tape" "length" "I" ∈ am_big := wl6_m 26 rfl
theorem wd_411 : Cond.instanceMethod yX8_cut ∈ am_big := wl6_m 27 rfl
theorem wd_412 : Cond.selects "EvenFerry$Tape" yX8_cut yX8_cut ∈ am_big := wl6_m 28 rfl
theorem wd_413 : Cond.methodLink "EvenFerry" 75 yX8_cut ∈ am_big := wl6_m 29 rfl
theorem wd_414 : Cond.instanceMethod yX5_read ∈ am_big := wl6_m 30 rfl
theorem wd_415 : Cond.selects "EvenFerry$Parser" yX5_read yX5_read ∈ am_big := wl6_m 31 rfl
theorem wd_416 : Cond.methodLink "EvenFerry" 78 yX5_read ∈ am_big := wl6_m 32 rfl
theorem wd_417 : Cond.fieldLink "EvenFerry" 82 "EvenFerry$Parser" "river" "LEvenFerry$River;" ∈ am_big := wl6_m 33 rfl
theorem wd_418 : Cond.instanceMethod yX7_start ∈ am_big := wl6_m 34 rfl
theorem wd_419 : Cond.selects "EvenFerry$State" yX7_start yX7_start ∈ am_big := wl6_m 35 rfl
theorem wd_420 : Cond.methodLink "EvenFerry" 86 yX7_start ∈ am_big := wl6_m 36 rfl
theorem wd_421 : Cond.instanceMethod yX9_forget ∈ am_big := wl6_m 37 rfl
theorem wd_422 : Cond.selects "EvenFerry" yX9_forget yX9_forget ∈ am_big := wl6_m 38 rfl
theorem wd_423 : Cond.methodLink "EvenFerry" 89 yX9_forget ∈ am_big := wl6_m 39 rfl
theorem wd_424 : Cond.fieldLink "EvenFerry" 92 "EvenFerry$State" "river" "LEvenFerry$River;" ∈ am_big := wl6_m 40 rfl
theorem wd_425 : Cond.instanceMethod yX9_isPerson ∈ am_big := wl6_m 41 rfl
theorem wd_426 : Cond.selects "EvenFerry" yX9_isPerson yX9_isPerson ∈ am_big := wl6_m 42 rfl
theorem wd_427 : Cond.methodLink "EvenFerry" 93 yX9_isPerson ∈ am_big := wl6_m 43 rfl
theorem wd_428 : Cond.fieldLink "EvenFerry" 97 "EvenFerry$River" "people" "LEvenFerry$Crowd;" ∈ am_big := wl6_m 44 rfl
theorem wd_429 : Cond.fieldLink "EvenFerry" 101 "EvenFerry$Crowd" "sides" "[I" ∈ am_big := wl6_m 45 rfl
theorem wd_430 : Cond.methodLink "EvenFerry" 107 yX9_get ∈ am_big := wl6_m 46 rfl
theorem wd_431 : Cond.fieldLink "EvenFerry" 111 "EvenFerry$Crowd" "times" "[I" ∈ am_big := wl6_m 47 rfl
theorem wd_432 : Cond.fieldLink "EvenFerry" 114 "EvenFerry$Crowd" "weights" "[I" ∈ am_big := wl6_m 48 rfl
theorem wd_433 : Cond.fieldLink "EvenFerry" 117 "EvenFerry$River" "costs" "[I" ∈ am_big := wl6_m 49 rfl
theorem wd_434 : Cond.fieldLink "EvenFerry" 120 "EvenFerry$River" "kinds" "[I" ∈ am_big := wl6_m 50 rfl
theorem wd_435 : Cond.fieldLink "EvenFerry" 123 "EvenFerry$Crowd" "counts" "[I" ∈ am_big := wl6_m 51 rfl
theorem wd_436 : Cond.fieldLink "EvenFerry" 126 "EvenFerry$River" "laws" "I" ∈ am_big := wl6_m 52 rfl
theorem wd_437 : Cond.fieldLink "EvenFerry" 129 "EvenFerry$State" "law" "I" ∈ am_big := wl6_m 53 rfl
theorem wd_438 : Cond.instanceMethod yX9_knowDay ∈ am_big := wl6_m 54 rfl
theorem wd_439 : Cond.selects "EvenFerry" yX9_knowDay yX9_knowDay ∈ am_big := wl6_m 55 rfl
theorem wd_440 : Cond.methodLink "EvenFerry" 132 yX9_knowDay ∈ am_big := wl6_m 56 rfl
theorem wd_441 : Cond.fieldLink "EvenFerry" 135 "EvenFerry$Day" "ringings" "I" ∈ am_big := wl6_m 57 rfl
theorem wd_442 : Cond.fieldLink "EvenFerry" 138 "EvenFerry$Day" "ringMinutes" "[I" ∈ am_big := wl6_m 58 rfl
theorem wd_443 : Cond.fieldLink "EvenFerry" 141 "EvenFerry$Day" "fromLeft" "[I" ∈ am_big := wl6_m 59 rfl
def wl7 : List Cond := [Cond.fieldLink "EvenFerry" 144 "EvenFerry$Day" "fromRight" "[I", Cond.methodLink "EvenFerry" 147 yX3_waitOf, Cond.fieldLink "EvenFerry" 151 "EvenFerry$Day" "goesBy" "[I", Cond.methodLink "EvenFerry" 154 yX3_costWithout, Cond.instanceMethod yX3_longestWait, Cond.selects "EvenFerry$Day" yX3_longestWait yX3_longestWait, Cond.methodLink "EvenFerry" 157 yX3_longestWait, Cond.instanceMethod yX9_nightBits, Cond.selects "EvenFerry" yX9_nightBits yX9_nightBits, Cond.methodLink "EvenFerry" 161 yX9_nightBits, Cond.methodLink "EvenFerry" 164 yX9_isMinute, Cond.instanceMethod yX9_heads, Cond.selects "EvenFerry" yX9_heads yX9_heads, Cond.methodLink "EvenFerry" 167 yX9_heads, Cond.instanceMethod yX9_together, Cond.selects "EvenFerry" yX9_together yX9_together, Cond.methodLink "EvenFerry" 171 yX9_together, Cond.instanceMethod yX9_beginTrial, Cond.selects "EvenFerry" yX9_beginTrial yX9_beginTrial, Cond.methodLink "EvenFerry" 175 yX9_beginTrial, Cond.methodLink "EvenFerry" 179 yX3_run, Cond.methodLink "EvenFerry" 182 yX3_come, Cond.methodLink "EvenFerry" 185 yX3_wouldRing, Cond.instanceMethod yX3_wouldRingWith, Cond.selects "EvenFerry$Day" yX3_wouldRingWith yX3_wouldRingWith, Cond.methodLink "EvenFerry" 188 yX3_wouldRingWith, Cond.fieldLink "EvenFerry" 206 "EvenFerry$Crowd" "size" "I", Cond.instanceMethod yX9_mayTurn, Cond.selects "EvenFerry" yX9_mayTurn yX9_mayTurn, Cond.methodLink "EvenFerry" 192 yX9_mayTurn, Cond.instanceMethod yX9_gainByTurning, Cond.selects "EvenFerry" yX9_gainByTurning yX9_gainByTurning, Cond.methodLink "EvenFerry" 203 yX9_gainByTurning, Cond.instanceMethod yX1_weigh, Cond.selects "EvenFerry$Choices" yX1_weigh yX1_weigh, Cond.methodLink "EvenFerry" 209 yX1_weigh, Cond.fieldLink "EvenFerry" 213 "EvenFerry$Choices" "costs" "[I", Cond.fieldLink "EvenFerry" 214 "EvenFerry$Choices" "cheapest" "I", Cond.fieldLink "EvenFerry" 217 "EvenFerry$River" "choosers" "I", Cond.methodLink "EvenFerry" 220 yX1_seat, Cond.fieldLink "EvenFerry" 223 "EvenFerry$Choices" "sides" "[I", Cond.methodLink "EvenFerry" 224 yX3_begin, Cond.fieldLink "EvenFerry" 228 "EvenFerry$Choices" "resting" "I", Cond.fieldLink "EvenFerry" 231 "EvenFerry$Choices" "restBits" "[I", Cond.instanceMethod yX7_addTold, Cond.selects "EvenFerry$State" yX7_addTold yX7_addTold, Cond.methodLink "EvenFerry" 234 yX7_addTold, Cond.fieldLink "EvenFerry" 237 "EvenFerry$State" "tolds" "I", Cond.fieldLink "EvenFerry" 240 "EvenFerry$State" "told" "[I", Cond.instanceMethod yX3_misjudged, Cond.selects "EvenFerry$Day" yX3_misjudged yX3_misjudged, Cond.methodLink "EvenFerry" 243 yX3_misjudged, Cond.instanceMethod yX7_isTold, Cond.selects "EvenFerry$State" yX7_isTold yX7_isTold, Cond.methodLink "EvenFerry" 246 yX7_isTold, Cond.constantLong "EvenFerry" 249 (-1), Cond.instanceMethod yX9_levels, Cond.selects "EvenFerry" yX9_levels yX9_levels, Cond.methodLink "EvenFerry" 251 yX9_levels, Cond.fieldLink "EvenFerry" 255 "EvenFerry$River" "second" "I"]
set_option maxRecDepth 100000 in
theorem wl7_e : wl7 = [393, 960, 387, 968, 978, 979, 977, 983, 30, 981, 989, 994, 31, 992, 1006, 33, 1004, 1014, 34, 1012, 861, 1016, 1017, 1019, 1020, 1018, 160, 1028, 35, 1026, 1032, 36, 1030, 1043, 1044, 1042, 451, 458, 216, 1073, 456, 852, 460, 454, 1087, 1088, 1086, 331, 321, 1102, 1103, 1101, 1106, 1107, 1105, 1113, 1116, 40, 1114, 209].filterMap (fun i => lw_tbl[i]?) := by decide +kernel
set_option maxRecDepth 100000 in
theorem wl7_g : wl7.all goodWord = true := by decide +kernel
theorem wl7_m {x : Cond} (i : Nat) (h : wl7[i]? = some x) : x ∈ am_big := am_wl wl7_e wl7_g (List.mem_of_getElem? h)
theorem wd_444 : Cond.fieldLink "EvenFerry" 144 "EvenFerry$Day" "fromRight" "[I" ∈ am_big := wl7_m 0 rfl
theorem wd_445 : Cond.methodLink "EvenFerry" 147 yX3_waitOf ∈ am_big := wl7_m 1 rfl
theorem wd_446 : Cond.fieldLink "EvenFerry" 151 "EvenFerry$Day" "goesBy" "[I" ∈ am_big := wl7_m 2 rfl
theorem wd_447 : Cond.methodLink "EvenFerry" 154 yX3_costWithout ∈ am_big := wl7_m 3 rfl
theorem wd_448 : Cond.instanceMethod yX3_longestWait ∈ am_big := wl7_m 4 rfl
theorem wd_449 : Cond.selects "EvenFerry$Day" yX3_longestWait yX3_longestWait ∈ am_big := wl7_m 5 rfl
theorem wd_450 : Cond.methodLink "EvenFerry" 157 yX3_longestWait ∈ am_big := wl7_m 6 rfl
theorem wd_451 : Cond.instanceMethod yX9_nightBits ∈ am_big := wl7_m 7 rfl
theorem wd_452 : Cond.selects "EvenFerry" yX9_nightBits yX9_nightBits ∈ am_big := wl7_m 8 rfl
theorem wd_453 : Cond.methodLink "EvenFerry" 161 yX9_nightBits ∈ am_big := wl7_m 9 rfl
theorem wd_454 : Cond.methodLink "EvenFerry" 164 yX9_isMinute ∈ am_big := wl7_m 10 rfl
theorem wd_455 : Cond.instanceMethod yX9_heads ∈ am_big := wl7_m 11 rfl
theorem wd_456 : Cond.selects "EvenFerry" yX9_heads yX9_heads ∈ am_big := wl7_m 12 rfl
theorem wd_457 : Cond.methodLink "EvenFerry" 167 yX9_heads ∈ am_big := wl7_m 13 rfl
theorem wd_458 : Cond.instanceMethod yX9_together ∈ am_big := wl7_m 14 rfl
theorem wd_459 : Cond.selects "EvenFerry" yX9_together yX9_together ∈ am_big := wl7_m 15 rfl
theorem wd_460 : Cond.methodLink "EvenFerry" 171 yX9_together ∈ am_big := wl7_m 16 rfl
theorem wd_461 : Cond.instanceMethod yX9_beginTrial ∈ am_big := wl7_m 17 rfl
theorem wd_462 : Cond.selects "EvenFerry" yX9_beginTrial yX9_beginTrial ∈ am_big := wl7_m 18 rfl
theorem wd_463 : Cond.methodLink "EvenFerry" 175 yX9_beginTrial ∈ am_big := wl7_m 19 rfl
theorem wd_464 : Cond.methodLink "EvenFerry" 179 yX3_run ∈ am_big := wl7_m 20 rfl
theorem wd_465 : Cond.methodLink "EvenFerry" 182 yX3_come ∈ am_big := wl7_m 21 rfl
theorem wd_466 : Cond.methodLink "EvenFerry" 185 yX3_wouldRing ∈ am_big := wl7_m 22 rfl
theorem wd_467 : Cond.instanceMethod yX3_wouldRingWith ∈ am_big := wl7_m 23 rfl
theorem wd_468 : Cond.selects "EvenFerry$Day" yX3_wouldRingWith yX3_wouldRingWith ∈ am_big := wl7_m 24 rfl
theorem wd_469 : Cond.methodLink "EvenFerry" 188 yX3_wouldRingWith ∈ am_big := wl7_m 25 rfl
theorem wd_470 : Cond.fieldLink "EvenFerry" 206 "EvenFerry$Crowd" "size" "I" ∈ am_big := wl7_m 26 rfl
theorem wd_471 : Cond.instanceMethod yX9_mayTurn ∈ am_big := wl7_m 27 rfl
theorem wd_472 : Cond.selects "EvenFerry" yX9_mayTurn yX9_mayTurn ∈ am_big := wl7_m 28 rfl
theorem wd_473 : Cond.methodLink "EvenFerry" 192 yX9_mayTurn ∈ am_big := wl7_m 29 rfl
theorem wd_474 : Cond.instanceMethod yX9_gainByTurning ∈ am_big := wl7_m 30 rfl
theorem wd_475 : Cond.selects "EvenFerry" yX9_gainByTurning yX9_gainByTurning ∈ am_big := wl7_m 31 rfl
theorem wd_476 : Cond.methodLink "EvenFerry" 203 yX9_gainByTurning ∈ am_big := wl7_m 32 rfl
theorem wd_477 : Cond.instanceMethod yX1_weigh ∈ am_big := wl7_m 33 rfl
theorem wd_478 : Cond.selects "EvenFerry$Choices" yX1_weigh yX1_weigh ∈ am_big := wl7_m 34 rfl
theorem wd_479 : Cond.methodLink "EvenFerry" 209 yX1_weigh ∈ am_big := wl7_m 35 rfl
theorem wd_480 : Cond.fieldLink "EvenFerry" 213 "EvenFerry$Choices" "costs" "[I" ∈ am_big := wl7_m 36 rfl
theorem wd_481 : Cond.fieldLink "EvenFerry" 214 "EvenFerry$Choices" "cheapest" "I" ∈ am_big := wl7_m 37 rfl
theorem wd_482 : Cond.fieldLink "EvenFerry" 217 "EvenFerry$River" "choosers" "I" ∈ am_big := wl7_m 38 rfl
theorem wd_483 : Cond.methodLink "EvenFerry" 220 yX1_seat ∈ am_big := wl7_m 39 rfl
theorem wd_484 : Cond.fieldLink "EvenFerry" 223 "EvenFerry$Choices" "sides" "[I" ∈ am_big := wl7_m 40 rfl
theorem wd_485 : Cond.methodLink "EvenFerry" 224 yX3_begin ∈ am_big := wl7_m 41 rfl
theorem wd_486 : Cond.fieldLink "EvenFerry" 228 "EvenFerry$Choices" "resting" "I" ∈ am_big := wl7_m 42 rfl
theorem wd_487 : Cond.fieldLink "EvenFerry" 231 "EvenFerry$Choices" "restBits" "[I" ∈ am_big := wl7_m 43 rfl
theorem wd_488 : Cond.instanceMethod yX7_addTold ∈ am_big := wl7_m 44 rfl
theorem wd_489 : Cond.selects "EvenFerry$State" yX7_addTold yX7_addTold ∈ am_big := wl7_m 45 rfl
theorem wd_490 : Cond.methodLink "EvenFerry" 234 yX7_addTold ∈ am_big := wl7_m 46 rfl
theorem wd_491 : Cond.fieldLink "EvenFerry" 237 "EvenFerry$State" "tolds" "I" ∈ am_big := wl7_m 47 rfl
theorem wd_492 : Cond.fieldLink "EvenFerry" 240 "EvenFerry$State" "told" "[I" ∈ am_big := wl7_m 48 rfl
theorem wd_493 : Cond.instanceMethod yX3_misjudged ∈ am_big := wl7_m 49 rfl
theorem wd_494 : Cond.selects "EvenFerry$Day" yX3_misjudged yX3_misjudged ∈ am_big := wl7_m 50 rfl
theorem wd_495 : Cond.methodLink "EvenFerry" 243 yX3_misjudged ∈ am_big := wl7_m 51 rfl
theorem wd_496 : Cond.instanceMethod yX7_isTold ∈ am_big := wl7_m 52 rfl
theorem wd_497 : Cond.selects "EvenFerry$State" yX7_isTold yX7_isTold ∈ am_big := wl7_m 53 rfl
theorem wd_498 : Cond.methodLink "EvenFerry" 246 yX7_isTold ∈ am_big := wl7_m 54 rfl
theorem wd_499 : Cond.constantLong "EvenFerry" 249 (-1) ∈ am_big := wl7_m 55 rfl
theorem wd_500 : Cond.instanceMethod yX9_levels ∈ am_big := wl7_m 56 rfl
theorem wd_501 : Cond.selects "EvenFerry" yX9_levels yX9_levels ∈ am_big := wl7_m 57 rfl
theorem wd_502 : Cond.methodLink "EvenFerry" 251 yX9_levels ∈ am_big := wl7_m 58 rfl
theorem wd_503 : Cond.fieldLink "EvenFerry" 255 "EvenFerry$River" "second" "I" ∈ am_big := wl7_m 59 rfl
def wl8 : List Cond := [Cond.methodLink "EvenFerry" 258 yX9_power, Cond.static yX9_power, Cond.methodLink "EvenFerry" 262 yX9_lowest, Cond.static yX9_lowest, Cond.methodLink "EvenFerry" 266 yX9_orders, Cond.static yX9_orders, Cond.instanceMethod yX4_isKnown, Cond.selects "EvenFerry$Lots" yX4_isKnown yX4_isKnown, Cond.methodLink "EvenFerry" 270 yX4_isKnown, Cond.instanceMethod yX4_go, Cond.selects "EvenFerry$Lots" yX4_go yX4_go, Cond.methodLink "EvenFerry" 273 yX4_go, Cond.fieldLink "EvenFerry" 277 "EvenFerry$Lots" "ringings" "I", Cond.fieldLink "EvenFerry" 278 "EvenFerry$Lots" "comers" "I", Cond.fieldLink "EvenFerry" 281 "EvenFerry$Lots" "waited" "I", Cond.fieldLink "EvenFerry" 284 "EvenFerry$Lots" "nights" "I", Cond.fieldLink "EvenFerry" 287 "EvenFerry$Lots" "longest" "I", Cond.instanceMethod yX7_take, Cond.selects "EvenFerry$State" yX7_take yX7_take, Cond.methodLink "EvenFerry" 290 yX7_take, Cond.fieldLink "EvenFerry" 294 "EvenFerry$State" "laid" "Z", Cond.fieldLink "EvenFerry" 298 "EvenFerry$River" "room" "I", Cond.fieldLink "EvenFerry" 301 "EvenFerry$River" "trip" "I", Cond.fieldLink "EvenFerry" 304 "EvenFerry$River" "boats" "I", Cond.fieldLink "EvenFerry" 307 "EvenFerry" "dayKnown" "Z", Cond.fieldLink "EvenFerry" 310 "EvenFerry$Choices" "known" "Z", Cond.fieldLink "EvenFerry" 313 "EvenFerry$Lots" "known" "Z", Cond.instanceMethod yX3_isWaitingBehind, Cond.selects "EvenFerry$Day" yX3_isWaitingBehind yX3_isWaitingBehind, Cond.methodLink "EvenFerry" 314 yX3_isWaitingBehind, Cond.instanceMethod yX9_waitsAt, Cond.selects "EvenFerry" yX9_waitsAt yX9_waitsAt, Cond.methodLink "EvenFerry" 317 yX9_waitsAt, Cond.instanceMethod yX3_letGoHome, Cond.selects "EvenFerry$Day" yX3_letGoHome yX3_letGoHome, Cond.methodLink "EvenFerry" 320 yX3_letGoHome, Cond.fieldLink "EvenFerry" 324 "EvenFerry$River" "first" "I", Cond.methodLink "EvenFerryModel" 1 Lib.objectInit, Cond.fieldLink "EvenFerryModel" 7 "EvenFerryModel" "tape" "[I", Cond.fieldLink "EvenFerryModel" 13 "EvenFerryModel" "river" "[I", Cond.fieldLink "EvenFerryModel" 16 "EvenFerryModel" "lineFrom" "[I", Cond.fieldLink "EvenFerryModel" 19 "EvenFerryModel" "lineTo" "[I", Cond.fieldLink "EvenFerryModel" 22 "EvenFerryModel" "codes" "[I", Cond.fieldLink "EvenFerryModel" 25 "EvenFerryModel" "names" "[J", Cond.fieldLink "EvenFerryModel" 29 "EvenFerryModel" "sideOf" "[I", Cond.fieldLink "EvenFerryModel" 32 "EvenFerryModel" "atOf" "[I", Cond.fieldLink "EvenFerryModel" 35 "EvenFerryModel" "weightOf" "[I", Cond.fieldLink "EvenFerryModel" 38 "EvenFerryModel" "costOf" "[I", Cond.fieldLink "EvenFerryModel" 41 "EvenFerryModel" "kindOf" "[I", Cond.fieldLink "EvenFerryModel" 44 "EvenFerryModel" "tellAt" "[I", Cond.fieldLink "EvenFerryModel" 47 "EvenFerryModel" "opened" "[I", Cond.fieldLink "EvenFerryModel" 50 "EvenFerryModel" "compared" "[Z", Cond.fieldLink "EvenFerryModel" 54 "EvenFerryModel" "kept" "[I", Cond.fieldLink "EvenFerryModel" 57 "EvenFerryModel" "keptBy" "[I", Cond.fieldLink "EvenFerryModel" 60 "EvenFerryModel" "ahead" "[I", Cond.fieldLink "EvenFerryModel" 63 "EvenFerryModel" "against" "[I", Cond.fieldLink "EvenFerryModel" 66 "EvenFerryModel" "sum" "[I", Cond.fieldLink "EvenFerryModel" 69 "EvenFerryModel" "sumBy" "[I", Cond.fieldLink "EvenFerryModel" 72 "EvenFerryModel" "term" "[I", Cond.fieldLink "EvenFerryModel" 75 "EvenFerryModel" "termBy" "[I"]
set_option maxRecDepth 100000 in
theorem wl8_e : wl8 = [1122, 1123, 1125, 1126, 1118, 1119, 1141, 1142, 1140, 1145, 1146, 1144, 492, 494, 496, 498, 500, 1179, 1180, 1178, 332, 193, 197, 201, 531, 462, 488, 1001, 1002, 1000, 998, 32, 996, 1035, 1036, 1034, 205, 1264, 1271, 1279, 1280, 1281, 1282, 1283, 1284, 1285, 1286, 1287, 1288, 1289, 1292, 1293, 1294, 1295, 1296, 1297, 1298, 1299, 1300, 1301].filterMap (fun i => lw_tbl[i]?) := by decide +kernel
set_option maxRecDepth 100000 in
theorem wl8_g : wl8.all goodWord = true := by decide +kernel
theorem wl8_m {x : Cond} (i : Nat) (h : wl8[i]? = some x) : x ∈ am_big := am_wl wl8_e wl8_g (List.mem_of_getElem? h)
theorem wd_504 : Cond.methodLink "EvenFerry" 258 yX9_power ∈ am_big := wl8_m 0 rfl
theorem wd_505 : Cond.static yX9_power ∈ am_big := wl8_m 1 rfl
theorem wd_506 : Cond.methodLink "EvenFerry" 262 yX9_lowest ∈ am_big := wl8_m 2 rfl
theorem wd_507 : Cond.static yX9_lowest ∈ am_big := wl8_m 3 rfl
theorem wd_508 : Cond.methodLink "EvenFerry" 266 yX9_orders ∈ am_big := wl8_m 4 rfl
theorem wd_509 : Cond.static yX9_orders ∈ am_big := wl8_m 5 rfl
theorem wd_510 : Cond.instanceMethod yX4_isKnown ∈ am_big := wl8_m 6 rfl
theorem wd_511 : Cond.selects "EvenFerry$Lots" yX4_isKnown yX4_isKnown ∈ am_big := wl8_m 7 rfl
theorem wd_512 : Cond.methodLink "EvenFerry" 270 yX4_isKnown ∈ am_big := wl8_m 8 rfl
theorem wd_513 : Cond.instanceMethod yX4_go ∈ am_big := wl8_m 9 rfl
theorem wd_514 : Cond.selects "EvenFerry$Lots" yX4_go yX4_go ∈ am_big := wl8_m 10 rfl
theorem wd_515 : Cond.methodLink "EvenFerry" 273 yX4_go ∈ am_big := wl8_m 11 rfl
theorem wd_516 : Cond.fieldLink "EvenFerry" 277 "EvenFerry$Lots" "ringings" "I" ∈ am_big := wl8_m 12 rfl
theorem wd_517 : Cond.fieldLink "EvenFerry" 278 "EvenFerry$Lots" "comers" "I" ∈ am_big := wl8_m 13 rfl
theorem wd_518 : Cond.fieldLink "EvenFerry" 281 "EvenFerry$Lots" "waited" "I" ∈ am_big := wl8_m 14 rfl
theorem wd_519 : Cond.fieldLink "EvenFerry" 284 "EvenFerry$Lots" "nights" "I" ∈ am_big := wl8_m 15 rfl
theorem wd_520 : Cond.fieldLink "EvenFerry" 287 "EvenFerry$Lots" "longest" "I" ∈ am_big := wl8_m 16 rfl
theorem wd_521 : Cond.instanceMethod yX7_take ∈ am_big := wl8_m 17 rfl
theorem wd_522 : Cond.selects "EvenFerry$State" yX7_take yX7_take ∈ am_big := wl8_m 18 rfl
theorem wd_523 : Cond.methodLink "EvenFerry" 290 yX7_take ∈ am_big := wl8_m 19 rfl
theorem wd_524 : Cond.fieldLink "EvenFerry" 294 "EvenFerry$State" "laid" "Z" ∈ am_big := wl8_m 20 rfl
theorem wd_525 : Cond.fieldLink "EvenFerry" 298 "EvenFerry$River" "room" "I" ∈ am_big := wl8_m 21 rfl
theorem wd_526 : Cond.fieldLink "EvenFerry" 301 "EvenFerry$River" "trip" "I" ∈ am_big := wl8_m 22 rfl
theorem wd_527 : Cond.fieldLink "EvenFerry" 304 "EvenFerry$River" "boats" "I" ∈ am_big := wl8_m 23 rfl
theorem wd_528 : Cond.fieldLink "EvenFerry" 307 "EvenFerry" "dayKnown" "Z" ∈ am_big := wl8_m 24 rfl
theorem wd_529 : Cond.fieldLink "EvenFerry" 310 "EvenFerry$Choices" "known" "Z" ∈ am_big := wl8_m 25 rfl
theorem wd_530 : Cond.fieldLink "EvenFerry" 313 "EvenFerry$Lots" "known" "Z" ∈ am_big := wl8_m 26 rfl
theorem wd_531 : Cond.instanceMethod yX3_isWaitingBehind ∈ am_big := wl8_m 27 rfl
theorem wd_532 : Cond.selects "EvenFerry$Day" yX3_isWaitingBehind yX3_isWaitingBehind ∈ am_big := wl8_m 28 rfl
theorem wd_533 : Cond.methodLink "EvenFerry" 314 yX3_isWaitingBehind ∈ am_big := wl8_m 29 rfl
theorem wd_534 : Cond.instanceMethod yX9_waitsAt ∈ am_big := wl8_m 30 rfl
theorem wd_535 : Cond.selects "EvenFerry" yX9_waitsAt yX9_waitsAt ∈ am_big := wl8_m 31 rfl
theorem wd_536 : Cond.methodLink "EvenFerry" 317 yX9_waitsAt ∈ am_big := wl8_m 32 rfl
theorem wd_537 : Cond.instanceMethod yX3_letGoHome ∈ am_big := wl8_m 33 rfl
theorem wd_538 : Cond.selects "EvenFerry$Day" yX3_letGoHome yX3_letGoHome ∈ am_big := wl8_m 34 rfl
theorem wd_539 : Cond.methodLink "EvenFerry" 320 yX3_letGoHome ∈ am_big := wl8_m 35 rfl
theorem wd_540 : Cond.fieldLink "EvenFerry" 324 "EvenFerry$River" "first" "I" ∈ am_big := wl8_m 36 rfl
theorem wd_541 : Cond.methodLink "EvenFerryModel" 1 Lib.objectInit ∈ am_big := wl8_m 37 rfl
theorem wd_542 : Cond.fieldLink "EvenFerryModel" 7 "EvenFerryModel" "tape" "[I" ∈ am_big := wl8_m 38 rfl
theorem wd_543 : Cond.fieldLink "EvenFerryModel" 13 "EvenFerryModel" "river" "[I" ∈ am_big := wl8_m 39 rfl
theorem wd_544 : Cond.fieldLink "EvenFerryModel" 16 "EvenFerryModel" "lineFrom" "[I" ∈ am_big := wl8_m 40 rfl
theorem wd_545 : Cond.fieldLink "EvenFerryModel" 19 "EvenFerryModel" "lineTo" "[I" ∈ am_big := wl8_m 41 rfl
theorem wd_546 : Cond.fieldLink "EvenFerryModel" 22 "EvenFerryModel" "codes" "[I" ∈ am_big := wl8_m 42 rfl
theorem wd_547 : Cond.fieldLink "EvenFerryModel" 25 "EvenFerryModel" "names" "[J" ∈ am_big := wl8_m 43 rfl
theorem wd_548 : Cond.fieldLink "EvenFerryModel" 29 "EvenFerryModel" "sideOf" "[I" ∈ am_big := wl8_m 44 rfl
theorem wd_549 : Cond.fieldLink "EvenFerryModel" 32 "EvenFerryModel" "atOf" "[I" ∈ am_big := wl8_m 45 rfl
theorem wd_550 : Cond.fieldLink "EvenFerryModel" 35 "EvenFerryModel" "weightOf" "[I" ∈ am_big := wl8_m 46 rfl
theorem wd_551 : Cond.fieldLink "EvenFerryModel" 38 "EvenFerryModel" "costOf" "[I" ∈ am_big := wl8_m 47 rfl
theorem wd_552 : Cond.fieldLink "EvenFerryModel" 41 "EvenFerryModel" "kindOf" "[I" ∈ am_big := wl8_m 48 rfl
theorem wd_553 : Cond.fieldLink "EvenFerryModel" 44 "EvenFerryModel" "tellAt" "[I" ∈ am_big := wl8_m 49 rfl
theorem wd_554 : Cond.fieldLink "EvenFerryModel" 47 "EvenFerryModel" "opened" "[I" ∈ am_big := wl8_m 50 rfl
theorem wd_555 : Cond.fieldLink "EvenFerryModel" 50 "EvenFerryModel" "compared" "[Z" ∈ am_big := wl8_m 51 rfl
theorem wd_556 : Cond.fieldLink "EvenFerryModel" 54 "EvenFerryModel" "kept" "[I" ∈ am_big := wl8_m 52 rfl
theorem wd_557 : Cond.fieldLink "EvenFerryModel" 57 "EvenFerryModel" "keptBy" "[I" ∈ am_big := wl8_m 53 rfl
theorem wd_558 : Cond.fieldLink "EvenFerryModel" 60 "EvenFerryModel" "ahead" "[I" ∈ am_big := wl8_m 54 rfl
theorem wd_559 : Cond.fieldLink "EvenFerryModel" 63 "EvenFerryModel" "against" "[I" ∈ am_big := wl8_m 55 rfl
theorem wd_560 : Cond.fieldLink "EvenFerryModel" 66 "EvenFerryModel" "sum" "[I" ∈ am_big := wl8_m 56 rfl
theorem wd_561 : Cond.fieldLink "EvenFerryModel" 69 "EvenFerryModel" "sumBy" "[I" ∈ am_big := wl8_m 57 rfl
theorem wd_562 : Cond.fieldLink "EvenFerryModel" 72 "EvenFerryModel" "term" "[I" ∈ am_big := wl8_m 58 rfl
theorem wd_563 : Cond.fieldLink "EvenFerryModel" 75 "EvenFerryModel" "termBy" "[I" ∈ am_big := wl8_m 59 rfl
def wl9 : List Cond := [Cond.fieldLink "EvenFerryModel" 78 "EvenFerryModel" "byNot" "[I", Cond.fieldLink "EvenFerryModel" 81 "EvenFerryModel" "valueOf" "[I", Cond.fieldLink "EvenFerryModel" 84 "EvenFerryModel" "side" "[I", Cond.fieldLink "EvenFerryModel" 87 "EvenFerryModel" "at" "[I", Cond.fieldLink "EvenFerryModel" 90 "EvenFerryModel" "weight" "[I", Cond.fieldLink "EvenFerryModel" 93 "EvenFerryModel" "cost" "[I", Cond.fieldLink "EvenFerryModel" 96 "EvenFerryModel" "counts" "[I", Cond.fieldLink "EvenFerryModel" 99 "EvenFerryModel" "gone" "[I", Cond.fieldLink "EvenFerryModel" 102 "EvenFerryModel" "goesBy" "[I", Cond.fieldLink "EvenFerryModel" 105 "EvenFerryModel" "ringAt" "[I", Cond.fieldLink "EvenFerryModel" 108 "EvenFerryModel" "ringLeft" "[I", Cond.fieldLink "EvenFerryModel" 111 "EvenFerryModel" "ringRight" "[I", Cond.fieldLink "EvenFerryModel" 114 "EvenFerryModel" "choiceCost" "[I", Cond.fieldLink "EvenFerryModel" 117 "EvenFerryModel" "own" "[I", Cond.fieldLink "EvenFerryModel" 120 "EvenFerryModel" "isLaid" "[Z", Cond.instanceMethod yX10_starts0, Cond.selects "EvenFerryModel" yX10_starts0 yX10_starts0, Cond.methodLink "EvenFerryModel" 123 yX10_starts0, Cond.arrayClass .boolean, Cond.fieldLink "EvenFerryModel" 127 "EvenFerryModel" "thrown" "I", Cond.fieldLink "EvenFerryModel" 133 "EvenFerryModel" "taped" "I", Cond.constantLong "EvenFerryModel" 131 255, Cond.fieldLink "EvenFerryModel" 136 "EvenFerryModel" "size" "I", Cond.fieldLink "EvenFerryModel" 139 "EvenFerryModel" "place" "I", Cond.fieldLink "EvenFerryModel" 142 "EvenFerryModel" "begin" "I", Cond.fieldLink "EvenFerryModel" 145 "EvenFerryModel" "word" "J", Cond.fieldLink "EvenFerryModel" 149 "EvenFerryModel" "told" "I", Cond.fieldLink "EvenFerryModel" 152 "EvenFerryModel" "token" "I", Cond.instanceMethod yX10_signAt, Cond.selects "EvenFerryModel" yX10_signAt yX10_signAt, Cond.methodLink "EvenFerryModel" 155 yX10_signAt, Cond.constantLong "EvenFerryModel" 159 27, Cond.constantLong "EvenFerryModel" 161 96, Cond.fieldLink "EvenFerryModel" 163 "EvenFerryModel" "wrong" "I", Cond.fieldLink "EvenFerryModel" 166 "EvenFerryModel" "code" "I", Cond.constantLong "EvenFerryModel" 169 240023, Cond.constantLong "EvenFerryModel" 171 9748424, Cond.constantLong "EvenFerryModel" 173 6624454, Cond.constantLong "EvenFerryModel" 175 9813100, Cond.constantLong "EvenFerryModel" 177 453701, Cond.constantLong "EvenFerryModel" 179 191610176, Cond.instanceMethod yX10_isSign, Cond.selects "EvenFerryModel" yX10_isSign yX10_isSign, Cond.methodLink "EvenFerryModel" 191 yX10_isSign, Cond.instanceMethod yX10_fact, Cond.selects "EvenFerryModel" yX10_fact yX10_fact, Cond.methodLink "EvenFerryModel" 181 yX10_fact, Cond.constantLong "EvenFerryModel" 185 10631, Cond.instanceMethod yX10_isWord, Cond.selects "EvenFerryModel" yX10_isWord yX10_isWord, Cond.methodLink "EvenFerryModel" 187 yX10_isWord, Cond.instanceMethod yX10_fails, Cond.selects "EvenFerryModel" yX10_fails yX10_fails, Cond.methodLink "EvenFerryModel" 195 yX10_fails, Cond.constantLong "EvenFerryModel" 204 1111, Cond.constantLong "EvenFerryModel" 206 423, Cond.instanceMethod yX10_puts, Cond.selects "EvenFerryModel" yX10_puts yX10_puts, Cond.methodLink "EvenFerryModel" 198 yX10_puts, Cond.instanceMethod yX10_nextToken]
set_option maxRecDepth 100000 in
theorem wl9_e : wl9 = [1302, 1303, 1306, 1307, 1308, 1309, 1310, 1311, 1312, 1314, 1315, 1316, 1320, 1321, 1323, 1267, 45, 1265, 1435, 1269, 1270, 1444, 1272, 1273, 1274, 1276, 1277, 1275, 1459, 48, 1457, 1461, 1462, 1278, 1290, 1518, 1519, 1520, 1521, 1522, 1523, 1489, 54, 1487, 1516, 59, 1514, 1524, 1466, 49, 1464, 1474, 51, 1472, 1529, 1530, 1527, 60, 1525, 1455].filterMap (fun i => lw_tbl[i]?) := by decide +kernel
set_option maxRecDepth 100000 in
theorem wl9_g : wl9.all goodWord = true := by decide +kernel
theorem wl9_m {x : Cond} (i : Nat) (h : wl9[i]? = some x) : x ∈ am_big := am_wl wl9_e wl9_g (List.mem_of_getElem? h)
theorem wd_564 : Cond.fieldLink "EvenFerryModel" 78 "EvenFerryModel" "byNot" "[I" ∈ am_big := wl9_m 0 rfl
theorem wd_565 : Cond.fieldLink "EvenFerryModel" 81 "EvenFerryModel" "valueOf" "[I" ∈ am_big := wl9_m 1 rfl
theorem wd_566 : Cond.fieldLink "EvenFerryModel" 84 "EvenFerryModel" "side" "[I" ∈ am_big := wl9_m 2 rfl
theorem wd_567 : Cond.fieldLink "EvenFerryModel" 87 "EvenFerryModel" "at" "[I" ∈ am_big := wl9_m 3 rfl
theorem wd_568 : Cond.fieldLink "EvenFerryModel" 90 "EvenFerryModel" "weight" "[I" ∈ am_big := wl9_m 4 rfl
theorem wd_569 : Cond.fieldLink "EvenFerryModel" 93 "EvenFerryModel" "cost" "[I" ∈ am_big := wl9_m 5 rfl
theorem wd_570 : Cond.fieldLink "EvenFerryModel" 96 "EvenFerryModel" "counts" "[I" ∈ am_big := wl9_m 6 rfl
theorem wd_571 : Cond.fieldLink "EvenFerryModel" 99 "EvenFerryModel" "gone" "[I" ∈ am_big := wl9_m 7 rfl
theorem wd_572 : Cond.fieldLink "EvenFerryModel" 102 "EvenFerryModel" "goesBy" "[I" ∈ am_big := wl9_m 8 rfl
theorem wd_573 : Cond.fieldLink "EvenFerryModel" 105 "EvenFerryModel" "ringAt" "[I" ∈ am_big := wl9_m 9 rfl
theorem wd_574 : Cond.fieldLink "EvenFerryModel" 108 "EvenFerryModel" "ringLeft" "[I" ∈ am_big := wl9_m 10 rfl
theorem wd_575 : Cond.fieldLink "EvenFerryModel" 111 "EvenFerryModel" "ringRight" "[I" ∈ am_big := wl9_m 11 rfl
theorem wd_576 : Cond.fieldLink "EvenFerryModel" 114 "EvenFerryModel" "choiceCost" "[I" ∈ am_big := wl9_m 12 rfl
theorem wd_577 : Cond.fieldLink "EvenFerryModel" 117 "EvenFerryModel" "own" "[I" ∈ am_big := wl9_m 13 rfl
theorem wd_578 : Cond.fieldLink "EvenFerryModel" 120 "EvenFerryModel" "isLaid" "[Z" ∈ am_big := wl9_m 14 rfl
theorem wd_579 : Cond.instanceMethod yX10_starts0 ∈ am_big := wl9_m 15 rfl
theorem wd_580 : Cond.selects "EvenFerryModel" yX10_starts0 yX10_starts0 ∈ am_big := wl9_m 16 rfl
theorem wd_581 : Cond.methodLink "EvenFerryModel" 123 yX10_starts0 ∈ am_big := wl9_m 17 rfl
theorem wd_582 : Cond.arrayClass .boolean ∈ am_big := wl9_m 18 rfl
theorem wd_583 : Cond.fieldLink "EvenFerryModel" 127 "EvenFerryModel" "thrown" "I" ∈ am_big := wl9_m 19 rfl
theorem wd_584 : Cond.fieldLink "EvenFerryModel" 133 "EvenFerryModel" "taped" "I" ∈ am_big := wl9_m 20 rfl
theorem wd_585 : Cond.constantLong "EvenFerryModel" 131 255 ∈ am_big := wl9_m 21 rfl
theorem wd_586 : Cond.fieldLink "EvenFerryModel" 136 "EvenFerryModel" "size" "I" ∈ am_big := wl9_m 22 rfl
theorem wd_587 : Cond.fieldLink "EvenFerryModel" 139 "EvenFerryModel" "place" "I" ∈ am_big := wl9_m 23 rfl
theorem wd_588 : Cond.fieldLink "EvenFerryModel" 142 "EvenFerryModel" "begin" "I" ∈ am_big := wl9_m 24 rfl
theorem wd_589 : Cond.fieldLink "EvenFerryModel" 145 "EvenFerryModel" "word" "J" ∈ am_big := wl9_m 25 rfl
theorem wd_590 : Cond.fieldLink "EvenFerryModel" 149 "EvenFerryModel" "told" "I" ∈ am_big := wl9_m 26 rfl
theorem wd_591 : Cond.fieldLink "EvenFerryModel" 152 "EvenFerryModel" "token" "I" ∈ am_big := wl9_m 27 rfl
theorem wd_592 : Cond.instanceMethod yX10_signAt ∈ am_big := wl9_m 28 rfl
theorem wd_593 : Cond.selects "EvenFerryModel" yX10_signAt yX10_signAt ∈ am_big := wl9_m 29 rfl
theorem wd_594 : Cond.methodLink "EvenFerryModel" 155 yX10_signAt ∈ am_big := wl9_m 30 rfl
theorem wd_595 : Cond.constantLong "EvenFerryModel" 159 27 ∈ am_big := wl9_m 31 rfl
theorem wd_596 : Cond.constantLong "EvenFerryModel" 161 96 ∈ am_big := wl9_m 32 rfl
theorem wd_597 : Cond.fieldLink "EvenFerryModel" 163 "EvenFerryModel" "wrong" "I" ∈ am_big := wl9_m 33 rfl
theorem wd_598 : Cond.fieldLink "EvenFerryModel" 166 "EvenFerryModel" "code" "I" ∈ am_big := wl9_m 34 rfl
theorem wd_599 : Cond.constantLong "EvenFerryModel" 169 240023 ∈ am_big := wl9_m 35 rfl
theorem wd_600 : Cond.constantLong "EvenFerryModel" 171 9748424 ∈ am_big := wl9_m 36 rfl
theorem wd_601 : Cond.constantLong "EvenFerryModel" 173 6624454 ∈ am_big := wl9_m 37 rfl
theorem wd_602 : Cond.constantLong "EvenFerryModel" 175 9813100 ∈ am_big := wl9_m 38 rfl
theorem wd_603 : Cond.constantLong "EvenFerryModel" 177 453701 ∈ am_big := wl9_m 39 rfl
theorem wd_604 : Cond.constantLong "EvenFerryModel" 179 191610176 ∈ am_big := wl9_m 40 rfl
theorem wd_605 : Cond.instanceMethod yX10_isSign ∈ am_big := wl9_m 41 rfl
theorem wd_606 : Cond.selects "EvenFerryModel" yX10_isSign yX10_isSign ∈ am_big := wl9_m 42 rfl
theorem wd_607 : Cond.methodLink "EvenFerryModel" 191 yX10_isSign ∈ am_big := wl9_m 43 rfl
theorem wd_608 : Cond.instanceMethod yX10_fact ∈ am_big := wl9_m 44 rfl
theorem wd_609 : Cond.selects "EvenFerryModel" yX10_fact yX10_fact ∈ am_big := wl9_m 45 rfl
theorem wd_610 : Cond.methodLink "EvenFerryModel" 181 yX10_fact ∈ am_big := wl9_m 46 rfl
theorem wd_611 : Cond.constantLong "EvenFerryModel" 185 10631 ∈ am_big := wl9_m 47 rfl
theorem wd_612 : Cond.instanceMethod yX10_isWord ∈ am_big := wl9_m 48 rfl
theorem wd_613 : Cond.selects "EvenFerryModel" yX10_isWord yX10_isWord ∈ am_big := wl9_m 49 rfl
theorem wd_614 : Cond.methodLink "EvenFerryModel" 187 yX10_isWord ∈ am_big := wl9_m 50 rfl
theorem wd_615 : Cond.instanceMethod yX10_fails ∈ am_big := wl9_m 51 rfl
theorem wd_616 : Cond.selects "EvenFerryModel" yX10_fails yX10_fails ∈ am_big := wl9_m 52 rfl
theorem wd_617 : Cond.methodLink "EvenFerryModel" 195 yX10_fails ∈ am_big := wl9_m 53 rfl
theorem wd_618 : Cond.constantLong "EvenFerryModel" 204 1111 ∈ am_big := wl9_m 54 rfl
theorem wd_619 : Cond.constantLong "EvenFerryModel" 206 423 ∈ am_big := wl9_m 55 rfl
theorem wd_620 : Cond.instanceMethod yX10_puts ∈ am_big := wl9_m 56 rfl
theorem wd_621 : Cond.selects "EvenFerryModel" yX10_puts yX10_puts ∈ am_big := wl9_m 57 rfl
theorem wd_622 : Cond.methodLink "EvenFerryModel" 198 yX10_puts ∈ am_big := wl9_m 58 rfl
theorem wd_623 : Cond.instanceMethod yX10_nextToken ∈ am_big := wl9_m 59 rfl
def wl10 : List Cond := [Cond.selects "EvenFerryModel" yX10_nextToken yX10_nextToken, Cond.methodLink "EvenFerryModel" 201 yX10_nextToken, Cond.instanceMethod yX10_sums, Cond.selects "EvenFerryModel" yX10_sums yX10_sums, Cond.methodLink "EvenFerryModel" 208 yX10_sums, Cond.instanceMethod yX10_opens, Cond.selects "EvenFerryModel" yX10_opens yX10_opens, Cond.methodLink "EvenFerryModel" 211 yX10_opens, Cond.instanceMethod yX10_tests, Cond.selects "EvenFerryModel" yX10_tests yX10_tests, Cond.methodLink "EvenFerryModel" 214 yX10_tests, Cond.constantLong "EvenFerryModel" 217 365647, Cond.constantLong "EvenFerryModel" 219 407041, Cond.constantLong "EvenFerryModel" 221 1359415, Cond.constantLong "EvenFerryModel" 223 380651, Cond.constantLong "EvenFerryModel" 225 411, Cond.constantLong "EvenFerryModel" 227 70340, Cond.constantLong "EvenFerryModel" 229 8798, Cond.constantLong "EvenFerryModel" 231 232608281, Cond.constantLong "EvenFerryModel" 233 47, Cond.constantLong "EvenFerryModel" 235 332864552, Cond.constantLong "EvenFerryModel" 237 70517, Cond.constantLong "EvenFerryModel" 239 8740238, Cond.constantLong "EvenFerryModel" 241 3328, Cond.constantLong "EvenFerryModel" 243 1758676, Cond.constantLong "EvenFerryModel" 245 60284, Cond.constantLong "EvenFerryModel" 247 298503054, Cond.constantLong "EvenFerryModel" 249 1285333587, Cond.methodLink "EvenFerryModel" 251 yX10_within, Cond.static yX10_within, Cond.fieldLink "EvenFerryModel" 255 "EvenFerryModel" "given" "I", Cond.fieldLink "EvenFerryModel" 258 "EvenFerryModel" "isTold" "I", Cond.instanceMethod yX10_needsNumber, Cond.selects "EvenFerryModel" yX10_needsNumber yX10_needsNumber, Cond.methodLink "EvenFerryModel" 261 yX10_needsNumber, Cond.instanceMethod yX10_ends, Cond.selects "EvenFerryModel" yX10_ends yX10_ends, Cond.methodLink "EvenFerryModel" 265 yX10_ends, Cond.instanceMethod yX10_needsWord, Cond.selects "EvenFerryModel" yX10_needsWord yX10_needsWord, Cond.methodLink "EvenFerryModel" 269 yX10_needsWord, Cond.methodLink "EvenFerryModel" 272 Lib.Math.max.name, Cond.instanceMethod yX10_reads, Cond.selects "EvenFerryModel" yX10_reads yX10_reads, Cond.methodLink "EvenFerryModel" 278 yX10_reads, Cond.instanceMethod yX10_isKept, Cond.selects "EvenFerryModel" yX10_isKept yX10_isKept, Cond.methodLink "EvenFerryModel" 281 yX10_isKept, Cond.instanceMethod yX10_kindAt, Cond.selects "EvenFerryModel" yX10_kindAt yX10_kindAt, Cond.methodLink "EvenFerryModel" 284 yX10_kindAt, Cond.instanceMethod yX10_choosers, Cond.selects "EvenFerryModel" yX10_choosers yX10_choosers, Cond.methodLink "EvenFerryModel" 287 yX10_choosers, Cond.instanceMethod yX10_readsPerson, Cond.selects "EvenFerryModel" yX10_readsPerson yX10_readsPerson, Cond.methodLink "EvenFerryModel" 299 yX10_readsPerson, Cond.instanceMethod yX10_readsLaw, Cond.selects "EvenFerryModel" yX10_readsLaw yX10_readsLaw, Cond.methodLink "EvenFerryModel" 296 yX10_readsLaw]
set_option maxRecDepth 100000 in
theorem wl10_e : wl10 = [47, 1453, 1622, 76, 1620, 1618, 75, 1616, 1626, 77, 1624, 1463, 1491, 1492, 1493, 1498, 1504, 1505, 1531, 1540, 1541, 1542, 1543, 1544, 1545, 1546, 1547, 1548, 1480, 1481, 1304, 1291, 1478, 52, 1476, 1485, 53, 1483, 1501, 56, 1499, 1503, 1512, 58, 1510, 1538, 62, 1536, 1551, 63, 1549, 1555, 64, 1553, 1534, 61, 1532, 1508, 57, 1506].filterMap (fun i => lw_tbl[i]?) := by decide +kernel
set_option maxRecDepth 100000 in
theorem wl10_g : wl10.all goodWord = true := by decide +kernel
theorem wl10_m {x : Cond} (i : Nat) (h : wl10[i]? = some x) : x ∈ am_big := am_wl wl10_e wl10_g (List.mem_of_getElem? h)
theorem wd_624 : Cond.selects "EvenFerryModel" yX10_nextToken yX10_nextToken ∈ am_big := wl10_m 0 rfl
theorem wd_625 : Cond.methodLink "EvenFerryModel" 201 yX10_nextToken ∈ am_big := wl10_m 1 rfl
theorem wd_626 : Cond.instanceMethod yX10_sums ∈ am_big := wl10_m 2 rfl
theorem wd_627 : Cond.selects "EvenFerryModel" yX10_sums yX10_sums ∈ am_big := wl10_m 3 rfl
theorem wd_628 : Cond.methodLink "EvenFerryModel" 208 yX10_sums ∈ am_big := wl10_m 4 rfl
theorem wd_629 : Cond.instanceMethod yX10_opens ∈ am_big := wl10_m 5 rfl
theorem wd_630 : Cond.selects "EvenFerryModel" yX10_opens yX10_opens ∈ am_big := wl10_m 6 rfl
theorem wd_631 : Cond.methodLink "EvenFerryModel" 211 yX10_opens ∈ am_big := wl10_m 7 rfl
theorem wd_632 : Cond.instanceMethod yX10_tests ∈ am_big := wl10_m 8 rfl
theorem wd_633 : Cond.selects "EvenFerryModel" yX10_tests yX10_tests ∈ am_big := wl10_m 9 rfl
theorem wd_634 : Cond.methodLink "EvenFerryModel" 214 yX10_tests ∈ am_big := wl10_m 10 rfl
theorem wd_635 : Cond.constantLong "EvenFerryModel" 217 365647 ∈ am_big := wl10_m 11 rfl
theorem wd_636 : Cond.constantLong "EvenFerryModel" 219 407041 ∈ am_big := wl10_m 12 rfl
theorem wd_637 : Cond.constantLong "EvenFerryModel" 221 1359415 ∈ am_big := wl10_m 13 rfl
theorem wd_638 : Cond.constantLong "EvenFerryModel" 223 380651 ∈ am_big := wl10_m 14 rfl
theorem wd_639 : Cond.constantLong "EvenFerryModel" 225 411 ∈ am_big := wl10_m 15 rfl
theorem wd_640 : Cond.constantLong "EvenFerryModel" 227 70340 ∈ am_big := wl10_m 16 rfl
theorem wd_641 : Cond.constantLong "EvenFerryModel" 229 8798 ∈ am_big := wl10_m 17 rfl
theorem wd_642 : Cond.constantLong "EvenFerryModel" 231 232608281 ∈ am_big := wl10_m 18 rfl
theorem wd_643 : Cond.constantLong "EvenFerryModel" 233 47 ∈ am_big := wl10_m 19 rfl
theorem wd_644 : Cond.constantLong "EvenFerryModel" 235 332864552 ∈ am_big := wl10_m 20 rfl
theorem wd_645 : Cond.constantLong "EvenFerryModel" 237 70517 ∈ am_big := wl10_m 21 rfl
theorem wd_646 : Cond.constantLong "EvenFerryModel" 239 8740238 ∈ am_big := wl10_m 22 rfl
theorem wd_647 : Cond.constantLong "EvenFerryModel" 241 3328 ∈ am_big := wl10_m 23 rfl
theorem wd_648 : Cond.constantLong "EvenFerryModel" 243 1758676 ∈ am_big := wl10_m 24 rfl
theorem wd_649 : Cond.constantLong "EvenFerryModel" 245 60284 ∈ am_big := wl10_m 25 rfl
theorem wd_650 : Cond.constantLong "EvenFerryModel" 247 298503054 ∈ am_big := wl10_m 26 rfl
theorem wd_651 : Cond.constantLong "EvenFerryModel" 249 1285333587 ∈ am_big := wl10_m 27 rfl
theorem wd_652 : Cond.methodLink "EvenFerryModel" 251 yX10_within ∈ am_big := wl10_m 28 rfl
theorem wd_653 : Cond.static yX10_within ∈ am_big := wl10_m 29 rfl
theorem wd_654 : Cond.fieldLink "EvenFerryModel" 255 "EvenFerryModel" "given" "I" ∈ am_big := wl10_m 30 rfl
theorem wd_655 : Cond.fieldLink "EvenFerryModel" 258 "EvenFerryModel" "isTold" "I" ∈ am_big := wl10_m 31 rfl
theorem wd_656 : Cond.instanceMethod yX10_needsNumber ∈ am_big := wl10_m 32 rfl
theorem wd_657 : Cond.selects "EvenFerryModel" yX10_needsNumber yX10_needsNumber ∈ am_big := wl10_m 33 rfl
theorem wd_658 : Cond.methodLink "EvenFerryModel" 261 yX10_needsNumber ∈ am_big := wl10_m 34 rfl
theorem wd_659 : Cond.instanceMethod yX10_ends ∈ am_big := wl10_m 35 rfl
theorem wd_660 : Cond.selects "EvenFerryModel" yX10_ends yX10_ends ∈ am_big := wl10_m 36 rfl
theorem wd_661 : Cond.methodLink "EvenFerryModel" 265 yX10_ends ∈ am_big := wl10_m 37 rfl
theorem wd_662 : Cond.instanceMethod yX10_needsWord ∈ am_big := wl10_m 38 rfl
theorem wd_663 : Cond.selects "EvenFerryModel" yX10_needsWord yX10_needsWord ∈ am_big := wl10_m 39 rfl
theorem wd_664 : Cond.methodLink "EvenFerryModel" 269 yX10_needsWord ∈ am_big := wl10_m 40 rfl
theorem wd_665 : Cond.methodLink "EvenFerryModel" 272 Lib.Math.max.name ∈ am_big := wl10_m 41 rfl
theorem wd_666 : Cond.instanceMethod yX10_reads ∈ am_big := wl10_m 42 rfl
theorem wd_667 : Cond.selects "EvenFerryModel" yX10_reads yX10_reads ∈ am_big := wl10_m 43 rfl
theorem wd_668 : Cond.methodLink "EvenFerryModel" 278 yX10_reads ∈ am_big := wl10_m 44 rfl
theorem wd_669 : Cond.instanceMethod yX10_isKept ∈ am_big := wl10_m 45 rfl
theorem wd_670 : Cond.selects "EvenFerryModel" yX10_isKept yX10_isKept ∈ am_big := wl10_m 46 rfl
theorem wd_671 : Cond.methodLink "EvenFerryModel" 281 yX10_isKept ∈ am_big := wl10_m 47 rfl
theorem wd_672 : Cond.instanceMethod yX10_kindAt ∈ am_big := wl10_m 48 rfl
theorem wd_673 : Cond.selects "EvenFerryModel" yX10_kindAt yX10_kindAt ∈ am_big := wl10_m 49 rfl
theorem wd_674 : Cond.methodLink "EvenFerryModel" 284 yX10_kindAt ∈ am_big := wl10_m 50 rfl
theorem wd_675 : Cond.instanceMethod yX10_choosers ∈ am_big := wl10_m 51 rfl
theorem wd_676 : Cond.selects "EvenFerryModel" yX10_choosers yX10_choosers ∈ am_big := wl10_m 52 rfl
theorem wd_677 : Cond.methodLink "EvenFerryModel" 287 yX10_choosers ∈ am_big := wl10_m 53 rfl
theorem wd_678 : Cond.instanceMethod yX10_readsPerson ∈ am_big := wl10_m 54 rfl
theorem wd_679 : Cond.selects "EvenFerryModel" yX10_readsPerson yX10_readsPerson ∈ am_big := wl10_m 55 rfl
theorem wd_680 : Cond.methodLink "EvenFerryModel" 299 yX10_readsPerson ∈ am_big := wl10_m 56 rfl
theorem wd_681 : Cond.instanceMethod yX10_readsLaw ∈ am_big := wl10_m 57 rfl
theorem wd_682 : Cond.selects "EvenFerryModel" yX10_readsLaw yX10_readsLaw ∈ am_big := wl10_m 58 rfl
theorem wd_683 : Cond.methodLink "EvenFerryModel" 296 yX10_readsLaw ∈ am_big := wl10_m 59 rfl
def wl11 : List Cond := [Cond.instanceMethod yX10_readsOne, Cond.selects "EvenFerryModel" yX10_readsOne yX10_readsOne, Cond.methodLink "EvenFerryModel" 290 yX10_readsOne, Cond.instanceMethod yX10_readsSide, Cond.selects "EvenFerryModel" yX10_readsSide yX10_readsSide, Cond.methodLink "EvenFerryModel" 293 yX10_readsSide, Cond.methodLink "EvenFerryModel" 302 yX10_moves, Cond.static yX10_moves, Cond.instanceMethod yX10_readsAll, Cond.selects "EvenFerryModel" yX10_readsAll yX10_readsAll, Cond.methodLink "EvenFerryModel" 306 yX10_readsAll, Cond.instanceMethod yX10_lays, Cond.selects "EvenFerryModel" yX10_lays yX10_lays, Cond.methodLink "EvenFerryModel" 309 yX10_lays, Cond.instanceMethod yX10_isPerson, Cond.selects "EvenFerryModel" yX10_isPerson yX10_isPerson, Cond.methodLink "EvenFerryModel" 313 yX10_isPerson, Cond.methodLink "EvenFerryModel" 316 yX10_countOf, Cond.static yX10_countOf, Cond.fieldLink "EvenFerryModel" 319 "EvenFerryModel" "people" "I", Cond.fieldLink "EvenFerryModel" 322 "EvenFerryModel" "rings" "I", Cond.fieldLink "EvenFerryModel" 325 "EvenFerryModel" "boat0" "I", Cond.fieldLink "EvenFerryModel" 329 "EvenFerryModel" "boat1" "I", Cond.fieldLink "EvenFerryModel" 332 "EvenFerryModel" "law" "I", Cond.constant "EvenFerryModel" 328 100000, Cond.instanceMethod yX10_dawns, Cond.selects "EvenFerryModel" yX10_dawns yX10_dawns, Cond.methodLink "EvenFerryModel" 335 yX10_dawns, Cond.instanceMethod yX10_joins, Cond.selects "EvenFerryModel" yX10_joins yX10_joins, Cond.methodLink "EvenFerryModel" 338 yX10_joins, Cond.instanceMethod yX10_worked, Cond.selects "EvenFerryModel" yX10_worked yX10_worked, Cond.methodLink "EvenFerryModel" 345 yX10_worked, Cond.instanceMethod yX10_isWaiting, Cond.selects "EvenFerryModel" yX10_isWaiting yX10_isWaiting, Cond.methodLink "EvenFerryModel" 342 yX10_isWaiting, Cond.instanceMethod yX10_firstOf, Cond.selects "EvenFerryModel" yX10_firstOf yX10_firstOf, Cond.methodLink "EvenFerryModel" 348 yX10_firstOf, Cond.instanceMethod yX10_leaves, Cond.selects "EvenFerryModel" yX10_leaves yX10_leaves, Cond.methodLink "EvenFerryModel" 351 yX10_leaves, Cond.instanceMethod yX10_wouldRing, Cond.selects "EvenFerryModel" yX10_wouldRing yX10_wouldRing, Cond.methodLink "EvenFerryModel" 354 yX10_wouldRing, Cond.instanceMethod yX10_ringsOnce, Cond.selects "EvenFerryModel" yX10_ringsOnce yX10_ringsOnce, Cond.methodLink "EvenFerryModel" 357 yX10_ringsOnce, Cond.instanceMethod yX10_tellsAll, Cond.selects "EvenFerryModel" yX10_tellsAll yX10_tellsAll, Cond.methodLink "EvenFerryModel" 360 yX10_tellsAll, Cond.instanceMethod yX10_goesOn, Cond.selects "EvenFerryModel" yX10_goesOn yX10_goesOn, Cond.methodLink "EvenFerryModel" 363 yX10_goesOn, Cond.instanceMethod yX10_waitOf, Cond.selects "EvenFerryModel" yX10_waitOf yX10_waitOf, Cond.methodLink "EvenFerryModel" 366 yX10_waitOf, Cond.instanceMethod yX10_day, Cond.selects "EvenFerryModel" yX10_day yX10_day]
set_option maxRecDepth 100000 in
theorem wl11_e : wl11 = [1470, 50, 1468, 1496, 55, 1494, 1561, 1562, 1451, 46, 1449, 1559, 65, 1557, 1570, 66, 1568, 1572, 1573, 1305, 1313, 1317, 1318, 1319, 1595, 1593, 69, 1591, 1598, 70, 1596, 1614, 74, 1612, 1610, 73, 1608, 1638, 80, 1636, 1634, 79, 1632, 1606, 72, 1604, 1630, 78, 1628, 1589, 68, 1587, 1602, 71, 1600, 1650, 81, 1648, 1585, 67].filterMap (fun i => lw_tbl[i]?) := by decide +kernel
set_option maxRecDepth 100000 in
theorem wl11_g : wl11.all goodWord = true := by decide +kernel
theorem wl11_m {x : Cond} (i : Nat) (h : wl11[i]? = some x) : x ∈ am_big := am_wl wl11_e wl11_g (List.mem_of_getElem? h)
theorem wd_684 : Cond.instanceMethod yX10_readsOne ∈ am_big := wl11_m 0 rfl
theorem wd_685 : Cond.selects "EvenFerryModel" yX10_readsOne yX10_readsOne ∈ am_big := wl11_m 1 rfl
theorem wd_686 : Cond.methodLink "EvenFerryModel" 290 yX10_readsOne ∈ am_big := wl11_m 2 rfl
theorem wd_687 : Cond.instanceMethod yX10_readsSide ∈ am_big := wl11_m 3 rfl
theorem wd_688 : Cond.selects "EvenFerryModel" yX10_readsSide yX10_readsSide ∈ am_big := wl11_m 4 rfl
theorem wd_689 : Cond.methodLink "EvenFerryModel" 293 yX10_readsSide ∈ am_big := wl11_m 5 rfl
theorem wd_690 : Cond.methodLink "EvenFerryModel" 302 yX10_moves ∈ am_big := wl11_m 6 rfl
theorem wd_691 : Cond.static yX10_moves ∈ am_big := wl11_m 7 rfl
theorem wd_692 : Cond.instanceMethod yX10_readsAll ∈ am_big := wl11_m 8 rfl
theorem wd_693 : Cond.selects "EvenFerryModel" yX10_readsAll yX10_readsAll ∈ am_big := wl11_m 9 rfl
theorem wd_694 : Cond.methodLink "EvenFerryModel" 306 yX10_readsAll ∈ am_big := wl11_m 10 rfl
theorem wd_695 : Cond.instanceMethod yX10_lays ∈ am_big := wl11_m 11 rfl
theorem wd_696 : Cond.selects "EvenFerryModel" yX10_lays yX10_lays ∈ am_big := wl11_m 12 rfl
theorem wd_697 : Cond.methodLink "EvenFerryModel" 309 yX10_lays ∈ am_big := wl11_m 13 rfl
theorem wd_698 : Cond.instanceMethod yX10_isPerson ∈ am_big := wl11_m 14 rfl
theorem wd_699 : Cond.selects "EvenFerryModel" yX10_isPerson yX10_isPerson ∈ am_big := wl11_m 15 rfl
theorem wd_700 : Cond.methodLink "EvenFerryModel" 313 yX10_isPerson ∈ am_big := wl11_m 16 rfl
theorem wd_701 : Cond.methodLink "EvenFerryModel" 316 yX10_countOf ∈ am_big := wl11_m 17 rfl
theorem wd_702 : Cond.static yX10_countOf ∈ am_big := wl11_m 18 rfl
theorem wd_703 : Cond.fieldLink "EvenFerryModel" 319 "EvenFerryModel" "people" "I" ∈ am_big := wl11_m 19 rfl
theorem wd_704 : Cond.fieldLink "EvenFerryModel" 322 "EvenFerryModel" "rings" "I" ∈ am_big := wl11_m 20 rfl
theorem wd_705 : Cond.fieldLink "EvenFerryModel" 325 "EvenFerryModel" "boat0" "I" ∈ am_big := wl11_m 21 rfl
theorem wd_706 : Cond.fieldLink "EvenFerryModel" 329 "EvenFerryModel" "boat1" "I" ∈ am_big := wl11_m 22 rfl
theorem wd_707 : Cond.fieldLink "EvenFerryModel" 332 "EvenFerryModel" "law" "I" ∈ am_big := wl11_m 23 rfl
theorem wd_708 : Cond.constant "EvenFerryModel" 328 100000 ∈ am_big := wl11_m 24 rfl
theorem wd_709 : Cond.instanceMethod yX10_dawns ∈ am_big := wl11_m 25 rfl
theorem wd_710 : Cond.selects "EvenFerryModel" yX10_dawns yX10_dawns ∈ am_big := wl11_m 26 rfl
theorem wd_711 : Cond.methodLink "EvenFerryModel" 335 yX10_dawns ∈ am_big := wl11_m 27 rfl
theorem wd_712 : Cond.instanceMethod yX10_joins ∈ am_big := wl11_m 28 rfl
theorem wd_713 : Cond.selects "EvenFerryModel" yX10_joins yX10_joins ∈ am_big := wl11_m 29 rfl
theorem wd_714 : Cond.methodLink "EvenFerryModel" 338 yX10_joins ∈ am_big := wl11_m 30 rfl
theorem wd_715 : Cond.instanceMethod yX10_worked ∈ am_big := wl11_m 31 rfl
theorem wd_716 : Cond.selects "EvenFerryModel" yX10_worked yX10_worked ∈ am_big := wl11_m 32 rfl
theorem wd_717 : Cond.methodLink "EvenFerryModel" 345 yX10_worked ∈ am_big := wl11_m 33 rfl
theorem wd_718 : Cond.instanceMethod yX10_isWaiting ∈ am_big := wl11_m 34 rfl
theorem wd_719 : Cond.selects "EvenFerryModel" yX10_isWaiting yX10_isWaiting ∈ am_big := wl11_m 35 rfl
theorem wd_720 : Cond.methodLink "EvenFerryModel" 342 yX10_isWaiting ∈ am_big := wl11_m 36 rfl
theorem wd_721 : Cond.instanceMethod yX10_firstOf ∈ am_big := wl11_m 37 rfl
theorem wd_722 : Cond.selects "EvenFerryModel" yX10_firstOf yX10_firstOf ∈ am_big := wl11_m 38 rfl
theorem wd_723 : Cond.methodLink "EvenFerryModel" 348 yX10_firstOf ∈ am_big := wl11_m 39 rfl
theorem wd_724 : Cond.instanceMethod yX10_leaves ∈ am_big := wl11_m 40 rfl
theorem wd_725 : Cond.selects "EvenFerryModel" yX10_leaves yX10_leaves ∈ am_big := wl11_m 41 rfl
theorem wd_726 : Cond.methodLink "EvenFerryModel" 351 yX10_leaves ∈ am_big := wl11_m 42 rfl
theorem wd_727 : Cond.instanceMethod yX10_wouldRing ∈ am_big := wl11_m 43 rfl
theorem wd_728 : Cond.selects "EvenFerryModel" yX10_wouldRing yX10_wouldRing ∈ am_big := wl11_m 44 rfl
theorem wd_729 : Cond.methodLink "EvenFerryModel" 354 yX10_wouldRing ∈ am_big := wl11_m 45 rfl
theorem wd_730 : Cond.instanceMethod yX10_ringsOnce ∈ am_big := wl11_m 46 rfl
theorem wd_731 : Cond.selects "EvenFerryModel" yX10_ringsOnce yX10_ringsOnce ∈ am_big := wl11_m 47 rfl
theorem wd_732 : Cond.methodLink "EvenFerryModel" 357 yX10_ringsOnce ∈ am_big := wl11_m 48 rfl
theorem wd_733 : Cond.instanceMethod yX10_tellsAll ∈ am_big := wl11_m 49 rfl
theorem wd_734 : Cond.selects "EvenFerryModel" yX10_tellsAll yX10_tellsAll ∈ am_big := wl11_m 50 rfl
theorem wd_735 : Cond.methodLink "EvenFerryModel" 360 yX10_tellsAll ∈ am_big := wl11_m 51 rfl
theorem wd_736 : Cond.instanceMethod yX10_goesOn ∈ am_big := wl11_m 52 rfl
theorem wd_737 : Cond.selects "EvenFerryModel" yX10_goesOn yX10_goesOn ∈ am_big := wl11_m 53 rfl
theorem wd_738 : Cond.methodLink "EvenFerryModel" 363 yX10_goesOn ∈ am_big := wl11_m 54 rfl
theorem wd_739 : Cond.instanceMethod yX10_waitOf ∈ am_big := wl11_m 55 rfl
theorem wd_740 : Cond.selects "EvenFerryModel" yX10_waitOf yX10_waitOf ∈ am_big := wl11_m 56 rfl
theorem wd_741 : Cond.methodLink "EvenFerryModel" 366 yX10_waitOf ∈ am_big := wl11_m 57 rfl
theorem wd_742 : Cond.instanceMethod yX10_day ∈ am_big := wl11_m 58 rfl
theorem wd_743 : Cond.selects "EvenFerryModel" yX10_day yX10_day ∈ am_big := wl11_m 59 rfl
def wl12 : List Cond := [Cond.methodLink "EvenFerryModel" 369 yX10_day, Cond.instanceMethod yX10_costAll, Cond.selects "EvenFerryModel" yX10_costAll yX10_costAll, Cond.methodLink "EvenFerryModel" 372 yX10_costAll, Cond.methodLink "EvenFerryModel" 375 yX10_isMinute, Cond.static yX10_isMinute, Cond.instanceMethod yX10_waitsBehind, Cond.selects "EvenFerryModel" yX10_waitsBehind yX10_waitsBehind, Cond.methodLink "EvenFerryModel" 378 yX10_waitsBehind, Cond.instanceMethod yX10_ringsBy, Cond.selects "EvenFerryModel" yX10_ringsBy yX10_ringsBy, Cond.methodLink "EvenFerryModel" 381 yX10_ringsBy, Cond.instanceMethod yX10_canTurn, Cond.selects "EvenFerryModel" yX10_canTurn yX10_canTurn, Cond.methodLink "EvenFerryModel" 384 yX10_canTurn, Cond.instanceMethod yX10_turns, Cond.selects "EvenFerryModel" yX10_turns yX10_turns, Cond.methodLink "EvenFerryModel" 387 yX10_turns, Cond.instanceMethod yX10_choices, Cond.selects "EvenFerryModel" yX10_choices yX10_choices, Cond.methodLink "EvenFerryModel" 390 yX10_choices, Cond.instanceMethod yX10_isRest, Cond.selects "EvenFerryModel" yX10_isRest yX10_isRest, Cond.methodLink "EvenFerryModel" 393 yX10_isRest, Cond.constantLong "EvenFerryModel" 396 2, Cond.methodLink "EvenFerryModel" 398 yX10_firsts, Cond.static yX10_firsts, Cond.constantLong "EvenFerryModel" 402 (-1), Cond.methodLink "EvenFerryModel" 407 yX10_gcd, Cond.static yX10_gcd, Cond.instanceMethod yX10_chance, Cond.selects "EvenFerryModel" yX10_chance yX10_chance, Cond.methodLink "EvenFerryModel" 404 yX10_chance, Cond.fieldLink "EvenFerryModel" 411 "EvenFerryModel" "g" "J", Cond.constantLong "EvenFerryModel" 414 1103515245, Cond.constantLong "EvenFerryModel" 416 12345, Cond.constantLong "EvenFerryModel" 418 2147483648, Cond.constantLong "EvenFerryModel" 420 65536, Cond.instanceMethod yX10_draws, Cond.selects "EvenFerryModel" yX10_draws yX10_draws, Cond.methodLink "EvenFerryModel" 422 yX10_draws, Cond.initialized "EvenFerry", Cond.initialized "EvenFerryModel"]
set_option maxRecDepth 100000 in
theorem wl12_e : wl12 = [1583, 1658, 82, 1656, 1664, 1665, 1669, 83, 1667, 1677, 84, 1675, 1685, 85, 1683, 1689, 86, 1687, 1701, 87, 1699, 1713, 88, 1711, 1743, 1740, 1741, 1735, 1744, 1745, 1738, 89, 1736, 1322, 1763, 1764, 1765, 1766, 1761, 90, 1759, 92, 103].filterMap (fun i => lw_tbl[i]?) := by decide +kernel
set_option maxRecDepth 100000 in
theorem wl12_g : wl12.all goodWord = true := by decide +kernel
theorem wl12_m {x : Cond} (i : Nat) (h : wl12[i]? = some x) : x ∈ am_big := am_wl wl12_e wl12_g (List.mem_of_getElem? h)
theorem wd_744 : Cond.methodLink "EvenFerryModel" 369 yX10_day ∈ am_big := wl12_m 0 rfl
theorem wd_745 : Cond.instanceMethod yX10_costAll ∈ am_big := wl12_m 1 rfl
theorem wd_746 : Cond.selects "EvenFerryModel" yX10_costAll yX10_costAll ∈ am_big := wl12_m 2 rfl
theorem wd_747 : Cond.methodLink "EvenFerryModel" 372 yX10_costAll ∈ am_big := wl12_m 3 rfl
theorem wd_748 : Cond.methodLink "EvenFerryModel" 375 yX10_isMinute ∈ am_big := wl12_m 4 rfl
theorem wd_749 : Cond.static yX10_isMinute ∈ am_big := wl12_m 5 rfl
theorem wd_750 : Cond.instanceMethod yX10_waitsBehind ∈ am_big := wl12_m 6 rfl
theorem wd_751 : Cond.selects "EvenFerryModel" yX10_waitsBehind yX10_waitsBehind ∈ am_big := wl12_m 7 rfl
theorem wd_752 : Cond.methodLink "EvenFerryModel" 378 yX10_waitsBehind ∈ am_big := wl12_m 8 rfl
theorem wd_753 : Cond.instanceMethod yX10_ringsBy ∈ am_big := wl12_m 9 rfl
theorem wd_754 : Cond.selects "EvenFerryModel" yX10_ringsBy yX10_ringsBy ∈ am_big := wl12_m 10 rfl
theorem wd_755 : Cond.methodLink "EvenFerryModel" 381 yX10_ringsBy ∈ am_big := wl12_m 11 rfl
theorem wd_756 : Cond.instanceMethod yX10_canTurn ∈ am_big := wl12_m 12 rfl
theorem wd_757 : Cond.selects "EvenFerryModel" yX10_canTurn yX10_canTurn ∈ am_big := wl12_m 13 rfl
theorem wd_758 : Cond.methodLink "EvenFerryModel" 384 yX10_canTurn ∈ am_big := wl12_m 14 rfl
theorem wd_759 : Cond.instanceMethod yX10_turns ∈ am_big := wl12_m 15 rfl
theorem wd_760 : Cond.selects "EvenFerryModel" yX10_turns yX10_turns ∈ am_big := wl12_m 16 rfl
theorem wd_761 : Cond.methodLink "EvenFerryModel" 387 yX10_turns ∈ am_big := wl12_m 17 rfl
theorem wd_762 : Cond.instanceMethod yX10_choices ∈ am_big := wl12_m 18 rfl
theorem wd_763 : Cond.selects "EvenFerryModel" yX10_choices yX10_choices ∈ am_big := wl12_m 19 rfl
theorem wd_764 : Cond.methodLink "EvenFerryModel" 390 yX10_choices ∈ am_big := wl12_m 20 rfl
theorem wd_765 : Cond.instanceMethod yX10_isRest ∈ am_big := wl12_m 21 rfl
theorem wd_766 : Cond.selects "EvenFerryModel" yX10_isRest yX10_isRest ∈ am_big := wl12_m 22 rfl
theorem wd_767 : Cond.methodLink "EvenFerryModel" 393 yX10_isRest ∈ am_big := wl12_m 23 rfl
theorem wd_768 : Cond.constantLong "EvenFerryModel" 396 2 ∈ am_big := wl12_m 24 rfl
theorem wd_769 : Cond.methodLink "EvenFerryModel" 398 yX10_firsts ∈ am_big := wl12_m 25 rfl
theorem wd_770 : Cond.static yX10_firsts ∈ am_big := wl12_m 26 rfl
theorem wd_771 : Cond.constantLong "EvenFerryModel" 402 (-1) ∈ am_big := wl12_m 27 rfl
theorem wd_772 : Cond.methodLink "EvenFerryModel" 407 yX10_gcd ∈ am_big := wl12_m 28 rfl
theorem wd_773 : Cond.static yX10_gcd ∈ am_big := wl12_m 29 rfl
theorem wd_774 : Cond.instanceMethod yX10_chance ∈ am_big := wl12_m 30 rfl
theorem wd_775 : Cond.selects "EvenFerryModel" yX10_chance yX10_chance ∈ am_big := wl12_m 31 rfl
theorem wd_776 : Cond.methodLink "EvenFerryModel" 404 yX10_chance ∈ am_big := wl12_m 32 rfl
theorem wd_777 : Cond.fieldLink "EvenFerryModel" 411 "EvenFerryModel" "g" "J" ∈ am_big := wl12_m 33 rfl
theorem wd_778 : Cond.constantLong "EvenFerryModel" 414 1103515245 ∈ am_big := wl12_m 34 rfl
theorem wd_779 : Cond.constantLong "EvenFerryModel" 416 12345 ∈ am_big := wl12_m 35 rfl
theorem wd_780 : Cond.constantLong "EvenFerryModel" 418 2147483648 ∈ am_big := wl12_m 36 rfl
theorem wd_781 : Cond.constantLong "EvenFerryModel" 420 65536 ∈ am_big := wl12_m 37 rfl
theorem wd_782 : Cond.instanceMethod yX10_draws ∈ am_big := wl12_m 38 rfl
theorem wd_783 : Cond.selects "EvenFerryModel" yX10_draws yX10_draws ∈ am_big := wl12_m 39 rfl
theorem wd_784 : Cond.methodLink "EvenFerryModel" 422 yX10_draws ∈ am_big := wl12_m 40 rfl
theorem wd_873 : Cond.initialized "EvenFerry" ∈ am_big := wl12_m 41 rfl
theorem wd_918 : Cond.initialized "EvenFerryModel" ∈ am_big := wl12_m 42 rfl
def wn0 : List Cond := [Cond.methodLinkNest "EvenFerry$Bank" 37 yX9_set "EvenFerry", Cond.methodLinkNest "EvenFerry$Bank" 45 yX9_get "EvenFerry", Cond.methodLinkNest "EvenFerry$Crowd" 35 yX9_set "EvenFerry", Cond.methodLinkNest "EvenFerry$Crowd" 41 yX9_get "EvenFerry", Cond.methodLinkNest "EvenFerry$State" 31 yX9_get "EvenFerry", Cond.methodLinkNest "EvenFerry$State" 35 yX9_set "EvenFerry", Cond.methodLinkNest "EvenFerry$State" 39 yX9_isMinute "EvenFerry", Cond.methodLinkNest "EvenFerry$River" 58 yX9_set "EvenFerry", Cond.methodLinkNest "EvenFerry$River" 79 yX9_get "EvenFerry", Cond.methodLinkNest "EvenFerry$Tape" 67 yX9_set "EvenFerry", Cond.methodLinkNest "EvenFerry$Tape" 83 yX9_get "EvenFerry", Cond.methodLinkNest "EvenFerry$Parser" 159 yX9_set "EvenFerry", Cond.methodLinkNest "EvenFerry$Day" 80 yX9_set "EvenFerry", Cond.methodLinkNest "EvenFerry$Day" 126 yX9_get "EvenFerry", Cond.methodLinkNest "EvenFerry$Lots" 123 yX9_get "EvenFerry", Cond.methodLinkNest "EvenFerry$Choices" 71 yX9_set "EvenFerry", Cond.methodLinkNest "EvenFerry$Choices" 78 yX9_get "EvenFerry", Cond.methodLinkNest "EvenFerry" 9 yX6_init "EvenFerry", Cond.methodLinkNest "EvenFerry" 12 yX8_init "EvenFerry", Cond.methodLinkNest "EvenFerry" 55 yX1_init "EvenFerry", Cond.methodLinkNest "EvenFerry" 62 yX4_init "EvenFerry"]
set_option maxRecDepth 100000 in
theorem wn0_e : wn0 = [779, 778, 713, 714, 999, 1001, 1000, 680, 834, 548, 649, 672, 765, 792, 1078, 961, 960, 34, 165, 355, 389].filterMap (fun i => tables_1[i]?) := by decide +kernel
set_option maxRecDepth 100000 in
theorem wn0_g : wn0.all am_isN = true := by decide +kernel
theorem wn0_m {x : Cond} (i : Nat) (h : wn0[i]? = some x) : x ∈ am_nest := am_wl wn0_e wn0_g (List.mem_of_getElem? h)
theorem wd_15 : Cond.methodLinkNest "EvenFerry$Bank" 37 yX9_set "EvenFerry" ∈ am_nest := wn0_m 0 rfl
theorem wd_18 : Cond.methodLinkNest "EvenFerry$Bank" 45 yX9_get "EvenFerry" ∈ am_nest := wn0_m 1 rfl
theorem wd_32 : Cond.methodLinkNest "EvenFerry$Crowd" 35 yX9_set "EvenFerry" ∈ am_nest := wn0_m 2 rfl
theorem wd_33 : Cond.methodLinkNest "EvenFerry$Crowd" 41 yX9_get "EvenFerry" ∈ am_nest := wn0_m 3 rfl
theorem wd_40 : Cond.methodLinkNest "EvenFerry$State" 31 yX9_get "EvenFerry" ∈ am_nest := wn0_m 4 rfl
theorem wd_41 : Cond.methodLinkNest "EvenFerry$State" 35 yX9_set "EvenFerry" ∈ am_nest := wn0_m 5 rfl
theorem wd_42 : Cond.methodLinkNest "EvenFerry$State" 39 yX9_isMinute "EvenFerry" ∈ am_nest := wn0_m 6 rfl
theorem wd_63 : Cond.methodLinkNest "EvenFerry$River" 58 yX9_set "EvenFerry" ∈ am_nest := wn0_m 7 rfl
theorem wd_72 : Cond.methodLinkNest "EvenFerry$River" 79 yX9_get "EvenFerry" ∈ am_nest := wn0_m 8 rfl
theorem wd_86 : Cond.methodLinkNest "EvenFerry$Tape" 67 yX9_set "EvenFerry" ∈ am_nest := wn0_m 9 rfl
theorem wd_94 : Cond.methodLinkNest "EvenFerry$Tape" 83 yX9_get "EvenFerry" ∈ am_nest := wn0_m 10 rfl
theorem wd_167 : Cond.methodLinkNest "EvenFerry$Parser" 159 yX9_set "EvenFerry" ∈ am_nest := wn0_m 11 rfl
theorem wd_201 : Cond.methodLinkNest "EvenFerry$Day" 80 yX9_set "EvenFerry" ∈ am_nest := wn0_m 12 rfl
theorem wd_238 : Cond.methodLinkNest "EvenFerry$Day" 126 yX9_get "EvenFerry" ∈ am_nest := wn0_m 13 rfl
theorem wd_326 : Cond.methodLinkNest "EvenFerry$Lots" 123 yX9_get "EvenFerry" ∈ am_nest := wn0_m 14 rfl
theorem wd_352 : Cond.methodLinkNest "EvenFerry$Choices" 71 yX9_set "EvenFerry" ∈ am_nest := wn0_m 15 rfl
theorem wd_354 : Cond.methodLinkNest "EvenFerry$Choices" 78 yX9_get "EvenFerry" ∈ am_nest := wn0_m 16 rfl
theorem wd_364 : Cond.methodLinkNest "EvenFerry" 9 yX6_init "EvenFerry" ∈ am_nest := wn0_m 17 rfl
theorem wd_366 : Cond.methodLinkNest "EvenFerry" 12 yX8_init "EvenFerry" ∈ am_nest := wn0_m 18 rfl
theorem wd_392 : Cond.methodLinkNest "EvenFerry" 55 yX1_init "EvenFerry" ∈ am_nest := wn0_m 19 rfl
theorem wd_395 : Cond.methodLinkNest "EvenFerry" 62 yX4_init "EvenFerry" ∈ am_nest := wn0_m 20 rfl
theorem okX0_init : am_ok mX0_init 1 := ⟨wd_785, wd_198, by decide, by decide +kernel, by decide⟩
theorem okX0_empty : am_ok mX0_empty 0 := ⟨wd_786, wd_198, by decide, by decide +kernel, by decide⟩
theorem okX0_join : am_ok mX0_join 2 := ⟨wd_787, wd_198, by decide, by decide +kernel, by decide⟩
theorem okX0_leaveFirst : am_ok mX0_leaveFirst 1 := ⟨wd_788, wd_198, by decide, by decide +kernel, by decide⟩
theorem okX0_leave : am_ok mX0_leave 2 := ⟨wd_789, wd_198, by decide, by decide +kernel, by decide⟩
theorem okX0_size : am_ok mX0_size 0 := ⟨wd_790, wd_198, by decide, by decide +kernel, by decide⟩
theorem okX0_countWithGuests : am_ok mX0_countWithGuests 0 := ⟨wd_791, wd_198, by decide, by decide +kernel, by decide⟩
theorem okX0_loadWithGuests : am_ok mX0_loadWithGuests 0 := ⟨wd_792, wd_198, by decide, by decide +kernel, by decide⟩
theorem okX1_init : am_ok mX1_init 0 := ⟨wd_793, wd_403, by decide, by decide +kernel, by decide⟩
theorem okX1_weigh : am_ok mX1_weigh 2 := ⟨wd_794, wd_403, by decide, by decide +kernel, by decide⟩
theorem okX1_seat : am_ok mX1_seat 2 := ⟨wd_795, wd_403, by decide, by decide +kernel, by decide⟩
theorem okX1_findCheapest : am_ok mX1_findCheapest 1 := ⟨wd_796, wd_403, by decide, by decide +kernel, by decide⟩
theorem okX1_findResting : am_ok mX1_findResting 2 := ⟨wd_797, wd_403, by decide, by decide +kernel, by decide⟩
theorem okX1_isAtRest : am_ok mX1_isAtRest 2 := ⟨wd_798, wd_403, by decide, by decide +kernel, by decide⟩
theorem okX2_init : am_ok mX2_init 1 := ⟨wd_799, wd_61, by decide, by decide +kernel, by decide⟩
theorem okX2_add : am_ok mX2_add 4 := ⟨wd_800, wd_61, by decide, by decide +kernel, by decide⟩
theorem okX2_timeAt : am_ok mX2_timeAt 1 := ⟨wd_801, wd_61, by decide, by decide +kernel, by decide⟩
theorem okX3_init : am_ok mX3_init 2 := ⟨wd_802, wd_406, by decide, by decide +kernel, by decide⟩
theorem okX3_begin : am_ok mX3_begin 4 := ⟨wd_803, wd_406, by decide, by decide +kernel, by decide⟩
theorem okX3_letGoHome : am_ok mX3_letGoHome 2 := ⟨wd_804, wd_406, by decide, by decide +kernel, by decide⟩
theorem okX3_run : am_ok mX3_run 1 := ⟨wd_805, wd_406, by decide, by decide +kernel, by decide⟩
theorem okX3_soonest : am_ok mX3_soonest 1 := ⟨wd_806, wd_406, by decide, by decide +kernel, by decide⟩
theorem okX3_firstHolding : am_ok mX3_firstHolding 2 := ⟨wd_807, wd_406, by decide, by decide +kernel, by decide⟩
theorem okX3_come : am_ok mX3_come 1 := ⟨wd_808, wd_406, by decide, by decide +kernel, by decide⟩
theorem okX3_bankOf : am_ok mX3_bankOf 1 := ⟨wd_809, wd_406, by decide, by decide +kernel, by decide⟩
theorem okX3_wouldRing : am_ok mX3_wouldRing 1 := ⟨wd_810, wd_406, by decide, by decide +kernel, by decide⟩
theorem okX3_wouldRingWith : am_ok mX3_wouldRingWith 3 := ⟨wd_811, wd_406, by decide, by decide +kernel, by decide⟩
theorem okX3_freeBoat : am_ok mX3_freeBoat 1 := ⟨wd_812, wd_406, by decide, by decide +kernel, by decide⟩
theorem okX3_gatherFacts : am_ok mX3_gatherFacts 1 := ⟨wd_813, wd_406, by decide, by decide +kernel, by decide⟩
theorem okX3_earliest : am_ok mX3_earliest 2 := ⟨wd_814, wd_406, by decide, by decide +kernel, by decide⟩
theorem okX3_goOver : am_ok mX3_goOver 1 := ⟨wd_815, wd_406, by decide, by decide +kernel, by decide⟩
theorem okX3_board : am_ok mX3_board 2 := ⟨wd_816, wd_406, by decide, by decide +kernel, by decide⟩
theorem okX3_misjudged : am_ok mX3_misjudged 2 := ⟨wd_817, wd_406, by decide, by decide +kernel, by decide⟩
theorem okX3_isWaitingBehind : am_ok mX3_isWaitingBehind 2 := ⟨wd_818, wd_406, by decide, by decide +kernel, by decide⟩
theorem okX3_waitOf : am_ok mX3_waitOf 1 := ⟨wd_819, wd_406, by decide, by decide +kernel, by decide⟩
theorem okX3_longestWait : am_ok mX3_longestWait 0 := ⟨wd_820, wd_406, by decide, by decide +kernel, by decide⟩
theorem okX3_costOf : am_ok mX3_costOf 1 := ⟨wd_821, wd_406, by decide, by decide +kernel, by decide⟩
theorem okX3_costWithout : am_ok mX3_costWithout 1 := ⟨wd_822, wd_406, by decide, by decide +kernel, by decide⟩
theorem okX4_init : am_ok mX4_init 0 := ⟨wd_823, wd_400, by decide, by decide +kernel, by decide⟩
theorem okX4_isKnown : am_ok mX4_isKnown 2 := ⟨wd_824, wd_400, by decide, by decide +kernel, by decide⟩
theorem okX4_go : am_ok mX4_go 4 := ⟨wd_825, wd_400, by decide, by decide +kernel, by decide⟩
theorem okX4_drawCrowd : am_ok mX4_drawCrowd 1 := ⟨wd_826, wd_400, by decide, by decide +kernel, by decide⟩
theorem okX4_draw : am_ok mX4_draw 1 := ⟨wd_827, wd_400, by decide, by decide +kernel, by decide⟩
theorem okX4_addUp : am_ok mX4_addUp 1 := ⟨wd_828, wd_400, by decide, by decide +kernel, by decide⟩
theorem okX5_init : am_ok mX5_init 2 := ⟨wd_829, wd_381, by decide, by decide +kernel, by decide⟩
theorem okX5_read : am_ok mX5_read 1 := ⟨wd_830, wd_381, by decide, by decide +kernel, by decide⟩
theorem okX5_kind : am_ok mX5_kind 0 := ⟨wd_831, wd_381, by decide, by decide +kernel, by decide⟩
theorem okX5_step : am_ok mX5_step 0 := ⟨wd_832, wd_381, by decide, by decide +kernel, by decide⟩
theorem okX5_wrong : am_ok mX5_wrong 1 := ⟨wd_833, wd_381, by decide, by decide +kernel, by decide⟩
theorem okX5_expect : am_ok mX5_expect 1 := ⟨wd_834, wd_381, by decide, by decide +kernel, by decide⟩
theorem okX5_number : am_ok mX5_number 2 := ⟨wd_835, wd_381, by decide, by decide +kernel, by decide⟩
theorem okX5_line : am_ok mX5_line 0 := ⟨wd_836, wd_381, by decide, by decide +kernel, by decide⟩
theorem okX5_lineToldOnce : am_ok mX5_lineToldOnce 1 := ⟨wd_837, wd_381, by decide, by decide +kernel, by decide⟩
theorem okX5_personLine : am_ok mX5_personLine 0 := ⟨wd_838, wd_381, by decide, by decide +kernel, by decide⟩
theorem okX5_name : am_ok mX5_name 0 := ⟨wd_839, wd_381, by decide, by decide +kernel, by decide⟩
theorem okX5_sideWord : am_ok mX5_sideWord 0 := ⟨wd_840, wd_381, by decide, by decide +kernel, by decide⟩
theorem okX5_kindWord : am_ok mX5_kindWord 0 := ⟨wd_841, wd_381, by decide, by decide +kernel, by decide⟩
theorem okX5_lawLine : am_ok mX5_lawLine 0 := ⟨wd_842, wd_381, by decide, by decide +kernel, by decide⟩
theorem okX5_write : am_ok mX5_write 1 := ⟨wd_843, wd_381, by decide, by decide +kernel, by decide⟩
theorem okX5_chain : am_ok mX5_chain 2 := ⟨wd_844, wd_381, by decide, by decide +kernel, by decide⟩
theorem okX5_levelOf : am_ok mX5_levelOf 1 := ⟨wd_845, wd_381, by decide, by decide +kernel, by decide⟩
theorem okX5_part : am_ok mX5_part 1 := ⟨wd_846, wd_381, by decide, by decide +kernel, by decide⟩
theorem okX6_init : am_ok mX6_init 0 := ⟨wd_847, wd_387, by decide, by decide +kernel, by decide⟩
theorem okX6_addPerson : am_ok mX6_addPerson 5 := ⟨wd_848, wd_387, by decide, by decide +kernel, by decide⟩
theorem okX6_countOf : am_ok mX6_countOf 1 := ⟨wd_849, wd_387, by decide, by decide +kernel, by decide⟩
theorem okX6_endLaw : am_ok mX6_endLaw 1 := ⟨wd_850, wd_387, by decide, by decide +kernel, by decide⟩
theorem okX6_isTimed : am_ok mX6_isTimed 1 := ⟨wd_851, wd_387, by decide, by decide +kernel, by decide⟩
theorem okX6_lawValue : am_ok mX6_lawValue 3 := ⟨wd_852, wd_387, by decide, by decide +kernel, by decide⟩
theorem okX6_joined : am_ok mX6_joined 3 := ⟨wd_853, wd_387, by decide, by decide +kernel, by decide⟩
theorem okX7_init : am_ok mX7_init 1 := ⟨wd_854, wd_378, by decide, by decide +kernel, by decide⟩
theorem okX7_start : am_ok mX7_start 1 := ⟨wd_855, wd_378, by decide, by decide +kernel, by decide⟩
theorem okX7_take : am_ok mX7_take 1 := ⟨wd_856, wd_378, by decide, by decide +kernel, by decide⟩
theorem okX7_addTold : am_ok mX7_addTold 1 := ⟨wd_857, wd_378, by decide, by decide +kernel, by decide⟩
theorem okX7_isTold : am_ok mX7_isTold 1 := ⟨wd_858, wd_378, by decide, by decide +kernel, by decide⟩
theorem okX8_init : am_ok mX8_init 0 := ⟨wd_859, wd_384, by decide, by decide +kernel, by decide⟩
theorem okX8_append : am_ok mX8_append 1 := ⟨wd_860, wd_384, by decide, by decide +kernel, by decide⟩
theorem okX8_cut : am_ok mX8_cut 0 := ⟨wd_861, wd_384, by decide, by decide +kernel, by decide⟩
theorem okX8_add : am_ok mX8_add 2 := ⟨wd_862, wd_384, by decide, by decide +kernel, by decide⟩
theorem okX8_signAt : am_ok mX8_signAt 1 := ⟨wd_863, wd_384, by decide, by decide +kernel, by decide⟩
theorem okX8_isLetter : am_ok mX8_isLetter 1 := ⟨wd_864, wd_384, by decide, by decide +kernel, by decide⟩
theorem okX8_isDigit : am_ok mX8_isDigit 1 := ⟨wd_865, wd_384, by decide, by decide +kernel, by decide⟩
theorem okX8_endOfWord : am_ok mX8_endOfWord 1 := ⟨wd_866, wd_384, by decide, by decide +kernel, by decide⟩
theorem okX8_endOfNumber : am_ok mX8_endOfNumber 1 := ⟨wd_867, wd_384, by decide, by decide +kernel, by decide⟩
theorem okX8_wordKind : am_ok mX8_wordKind 2 := ⟨wd_868, wd_384, by decide, by decide +kernel, by decide⟩
theorem okX8_isWord : am_ok mX8_isWord 3 := ⟨wd_869, wd_384, by decide, by decide +kernel, by decide⟩
theorem okX8_nameKey : am_ok mX8_nameKey 1 := ⟨wd_870, wd_384, by decide, by decide +kernel, by decide⟩
theorem okX8_numberValue : am_ok mX8_numberValue 1 := ⟨wd_871, wd_384, by decide, by decide +kernel, by decide⟩
theorem okX9_init : am_ok mX9_init 0 := ⟨wd_872, wd_873, by decide, by decide +kernel, by decide⟩
theorem okX9_feed : am_ok mX9_feed 3 := ⟨wd_874, wd_873, by decide, by decide +kernel, by decide⟩
theorem okX9_river : am_ok mX9_river 0 := ⟨wd_875, wd_873, by decide, by decide +kernel, by decide⟩
theorem okX9_person : am_ok mX9_person 2 := ⟨wd_876, wd_873, by decide, by decide +kernel, by decide⟩
theorem okX9_use : am_ok mX9_use 1 := ⟨wd_877, wd_873, by decide, by decide +kernel, by decide⟩
theorem okX9_rings : am_ok mX9_rings 0 := ⟨wd_878, wd_873, by decide, by decide +kernel, by decide⟩
theorem okX9_ring : am_ok mX9_ring 2 := ⟨wd_879, wd_873, by decide, by decide +kernel, by decide⟩
theorem okX9_waits : am_ok mX9_waits 2 := ⟨wd_880, wd_873, by decide, by decide +kernel, by decide⟩
theorem okX9_all : am_ok mX9_all 1 := ⟨wd_881, wd_873, by decide, by decide +kernel, by decide⟩
theorem okX9_bank : am_ok mX9_bank 3 := ⟨wd_882, wd_873, by decide, by decide +kernel, by decide⟩
theorem okX9_send : am_ok mX9_send 2 := ⟨wd_883, wd_873, by decide, by decide +kernel, by decide⟩
theorem okX9_turn : am_ok mX9_turn 2 := ⟨wd_884, wd_873, by decide, by decide +kernel, by decide⟩
theorem okX9_asks : am_ok mX9_asks 1 := ⟨wd_885, wd_873, by decide, by decide +kernel, by decide⟩
theorem okX9_choice : am_ok mX9_choice 1 := ⟨wd_886, wd_873, by decide, by decide +kernel, by decide⟩
theorem okX9_chosen : am_ok mX9_chosen 1 := ⟨wd_887, wd_873, by decide, by decide +kernel, by decide⟩
theorem okX9_rests : am_ok mX9_rests 0 := ⟨wd_888, wd_873, by decide, by decide +kernel, by decide⟩
theorem okX9_rest : am_ok mX9_rest 1 := ⟨wd_889, wd_873, by decide, by decide +kernel, by decide⟩
theorem okX9_tell : am_ok mX9_tell 1 := ⟨wd_890, wd_873, by decide, by decide +kernel, by decide⟩
theorem okX9_clear : am_ok mX9_clear 0 := ⟨wd_891, wd_873, by decide, by decide +kernel, by decide⟩
theorem okX9_judged : am_ok mX9_judged 1 := ⟨wd_892, wd_873, by decide, by decide +kernel, by decide⟩
theorem okX9_likely : am_ok mX9_likely 2 := ⟨wd_893, wd_873, by decide, by decide +kernel, by decide⟩
theorem okX9_mean : am_ok mX9_mean 2 := ⟨wd_894, wd_873, by decide, by decide +kernel, by decide⟩
theorem okX9_came : am_ok mX9_came 1 := ⟨wd_895, wd_873, by decide, by decide +kernel, by decide⟩
theorem okX9_lots : am_ok mX9_lots 3 := ⟨wd_896, wd_873, by decide, by decide +kernel, by decide⟩
theorem okX9_best : am_ok mX9_best 0 := ⟨wd_897, wd_873, by decide, by decide +kernel, by decide⟩
theorem okX9_mark : am_ok mX9_mark 2 := ⟨wd_898, wd_873, by decide, by decide +kernel, by decide⟩
theorem okX9_count : am_ok mX9_count 1 := ⟨wd_899, wd_873, by decide, by decide +kernel, by decide⟩
theorem okX9_get : am_ok mX9_get 2 := ⟨wd_900, wd_873, by decide, by decide +kernel, by decide⟩
theorem okX9_set : am_ok mX9_set 3 := ⟨wd_901, wd_873, by decide, by decide +kernel, by decide⟩
theorem okX9_isMinute : am_ok mX9_isMinute 1 := ⟨wd_902, wd_873, by decide, by decide +kernel, by decide⟩
theorem okX9_isPerson : am_ok mX9_isPerson 1 := ⟨wd_903, wd_873, by decide, by decide +kernel, by decide⟩
theorem okX9_forget : am_ok mX9_forget 0 := ⟨wd_904, wd_873, by decide, by decide +kernel, by decide⟩
theorem okX9_knowDay : am_ok mX9_knowDay 0 := ⟨wd_905, wd_873, by decide, by decide +kernel, by decide⟩
theorem okX9_beginTrial : am_ok mX9_beginTrial 1 := ⟨wd_906, wd_873, by decide, by decide +kernel, by decide⟩
theorem okX9_nightBits : am_ok mX9_nightBits 0 := ⟨wd_907, wd_873, by decide, by decide +kernel, by decide⟩
theorem okX9_waitsAt : am_ok mX9_waitsAt 3 := ⟨wd_908, wd_873, by decide, by decide +kernel, by decide⟩
theorem okX9_heads : am_ok mX9_heads 2 := ⟨wd_909, wd_873, by decide, by decide +kernel, by decide⟩
theorem okX9_together : am_ok mX9_together 3 := ⟨wd_910, wd_873, by decide, by decide +kernel, by decide⟩
theorem okX9_mayTurn : am_ok mX9_mayTurn 2 := ⟨wd_911, wd_873, by decide, by decide +kernel, by decide⟩
theorem okX9_gainByTurning : am_ok mX9_gainByTurning 2 := ⟨wd_912, wd_873, by decide, by decide +kernel, by decide⟩
theorem okX9_levels : am_ok mX9_levels 2 := ⟨wd_913, wd_873, by decide, by decide +kernel, by decide⟩
theorem okX9_orders : am_ok mX9_orders 1 := ⟨wd_914, wd_873, by decide, by decide +kernel, by decide⟩
theorem okX9_power : am_ok mX9_power 2 := ⟨wd_915, wd_873, by decide, by decide +kernel, by decide⟩
theorem okX9_lowest : am_ok mX9_lowest 3 := ⟨wd_916, wd_873, by decide, by decide +kernel, by decide⟩
theorem okX10_init : am_ok mX10_init 0 := ⟨wd_917, wd_918, by decide, by decide +kernel, by decide⟩
theorem okX10_thrown : am_ok mX10_thrown 0 := ⟨wd_919, wd_918, by decide, by decide +kernel, by decide⟩
theorem okX10_within : am_ok mX10_within 3 := ⟨wd_920, wd_918, by decide, by decide +kernel, by decide⟩
theorem okX10_gcd : am_ok mX10_gcd 2 := ⟨wd_921, wd_918, by decide, by decide +kernel, by decide⟩
theorem okX10_feed : am_ok mX10_feed 3 := ⟨wd_922, wd_918, by decide, by decide +kernel, by decide⟩
theorem okX10_signAt : am_ok mX10_signAt 1 := ⟨wd_923, wd_918, by decide, by decide +kernel, by decide⟩
theorem okX10_nextToken : am_ok mX10_nextToken 0 := ⟨wd_924, wd_918, by decide, by decide +kernel, by decide⟩
theorem okX10_isWord : am_ok mX10_isWord 1 := ⟨wd_925, wd_918, by decide, by decide +kernel, by decide⟩
theorem okX10_isSign : am_ok mX10_isSign 1 := ⟨wd_926, wd_918, by decide, by decide +kernel, by decide⟩
theorem okX10_fails : am_ok mX10_fails 1 := ⟨wd_927, wd_918, by decide, by decide +kernel, by decide⟩
theorem okX10_starts0 : am_ok mX10_starts0 1 := ⟨wd_928, wd_918, by decide, by decide +kernel, by decide⟩
theorem okX10_puts : am_ok mX10_puts 1 := ⟨wd_929, wd_918, by decide, by decide +kernel, by decide⟩
theorem okX10_fact : am_ok mX10_fact 0 := ⟨wd_930, wd_918, by decide, by decide +kernel, by decide⟩
theorem okX10_reads : am_ok mX10_reads 0 := ⟨wd_931, wd_918, by decide, by decide +kernel, by decide⟩
theorem okX10_opens : am_ok mX10_opens 1 := ⟨wd_932, wd_918, by decide, by decide +kernel, by decide⟩
theorem okX10_sums : am_ok mX10_sums 1 := ⟨wd_933, wd_918, by decide, by decide +kernel, by decide⟩
theorem okX10_tests : am_ok mX10_tests 1 := ⟨wd_934, wd_918, by decide, by decide +kernel, by decide⟩
theorem okX10_worked : am_ok mX10_worked 1 := ⟨wd_935, wd_918, by decide, by decide +kernel, by decide⟩
theorem okX10_isKept : am_ok mX10_isKept 0 := ⟨wd_936, wd_918, by decide, by decide +kernel, by decide⟩
theorem okX10_needsNumber : am_ok mX10_needsNumber 2 := ⟨wd_937, wd_918, by decide, by decide +kernel, by decide⟩
theorem okX10_needsWord : am_ok mX10_needsWord 1 := ⟨wd_938, wd_918, by decide, by decide +kernel, by decide⟩
theorem okX10_ends : am_ok mX10_ends 0 := ⟨wd_939, wd_918, by decide, by decide +kernel, by decide⟩
theorem okX10_readsOne : am_ok mX10_readsOne 3 := ⟨wd_940, wd_918, by decide, by decide +kernel, by decide⟩
theorem okX10_readsSide : am_ok mX10_readsSide 0 := ⟨wd_941, wd_918, by decide, by decide +kernel, by decide⟩
theorem okX10_readsLaw : am_ok mX10_readsLaw 0 := ⟨wd_942, wd_918, by decide, by decide +kernel, by decide⟩
theorem okX10_kindAt : am_ok mX10_kindAt 0 := ⟨wd_943, wd_918, by decide, by decide +kernel, by decide⟩
theorem okX10_choosers : am_ok mX10_choosers 1 := ⟨wd_944, wd_918, by decide, by decide +kernel, by decide⟩
theorem okX10_readsPerson : am_ok mX10_readsPerson 0 := ⟨wd_945, wd_918, by decide, by decide +kernel, by decide⟩
theorem okX10_readsAll : am_ok mX10_readsAll 0 := ⟨wd_946, wd_918, by decide, by decide +kernel, by decide⟩
theorem okX10_moves : am_ok mX10_moves 4 := ⟨wd_947, wd_918, by decide, by decide +kernel, by decide⟩
theorem okX10_lays : am_ok mX10_lays 2 := ⟨wd_948, wd_918, by decide, by decide +kernel, by decide⟩
theorem okX10_river : am_ok mX10_river 0 := ⟨wd_949, wd_918, by decide, by decide +kernel, by decide⟩
theorem okX10_isPerson : am_ok mX10_isPerson 1 := ⟨wd_950, wd_918, by decide, by decide +kernel, by decide⟩
theorem okX10_isMinute : am_ok mX10_isMinute 1 := ⟨wd_951, wd_918, by decide, by decide +kernel, by decide⟩
theorem okX10_countOf : am_ok mX10_countOf 1 := ⟨wd_952, wd_918, by decide, by decide +kernel, by decide⟩
theorem okX10_person : am_ok mX10_person 2 := ⟨wd_953, wd_918, by decide, by decide +kernel, by decide⟩
theorem okX10_use : am_ok mX10_use 1 := ⟨wd_954, wd_918, by decide, by decide +kernel, by decide⟩
theorem okX10_joins : am_ok mX10_joins 5 := ⟨wd_955, wd_918, by decide, by decide +kernel, by decide⟩
theorem okX10_dawns : am_ok mX10_dawns 0 := ⟨wd_956, wd_918, by decide, by decide +kernel, by decide⟩
theorem okX10_tellsAll : am_ok mX10_tellsAll 1 := ⟨wd_957, wd_918, by decide, by decide +kernel, by decide⟩
theorem okX10_isWaiting : am_ok mX10_isWaiting 2 := ⟨wd_958, wd_918, by decide, by decide +kernel, by decide⟩
theorem okX10_wouldRing : am_ok mX10_wouldRing 1 := ⟨wd_959, wd_918, by decide, by decide +kernel, by decide⟩
theorem okX10_firstOf : am_ok mX10_firstOf 2 := ⟨wd_960, wd_918, by decide, by decide +kernel, by decide⟩
theorem okX10_leaves : am_ok mX10_leaves 2 := ⟨wd_961, wd_918, by decide, by decide +kernel, by decide⟩
theorem okX10_ringsOnce : am_ok mX10_ringsOnce 1 := ⟨wd_962, wd_918, by decide, by decide +kernel, by decide⟩
theorem okX10_goesOn : am_ok mX10_goesOn 2 := ⟨wd_963, wd_918, by decide, by decide +kernel, by decide⟩
theorem okX10_day : am_ok mX10_day 1 := ⟨wd_964, wd_918, by decide, by decide +kernel, by decide⟩
theorem okX10_waitOf : am_ok mX10_waitOf 1 := ⟨wd_965, wd_918, by decide, by decide +kernel, by decide⟩
theorem okX10_costAll : am_ok mX10_costAll 1 := ⟨wd_966, wd_918, by decide, by decide +kernel, by decide⟩
theorem okX10_rings : am_ok mX10_rings 0 := ⟨wd_967, wd_918, by decide, by decide +kernel, by decide⟩
theorem okX10_ring : am_ok mX10_ring 2 := ⟨wd_968, wd_918, by decide, by decide +kernel, by decide⟩
theorem okX10_waits : am_ok mX10_waits 2 := ⟨wd_969, wd_918, by decide, by decide +kernel, by decide⟩
theorem okX10_all : am_ok mX10_all 1 := ⟨wd_970, wd_918, by decide, by decide +kernel, by decide⟩
theorem okX10_waitsBehind : am_ok mX10_waitsBehind 2 := ⟨wd_971, wd_918, by decide, by decide +kernel, by decide⟩
theorem okX10_bank : am_ok mX10_bank 3 := ⟨wd_972, wd_918, by decide, by decide +kernel, by decide⟩
theorem okX10_ringsBy : am_ok mX10_ringsBy 3 := ⟨wd_973, wd_918, by decide, by decide +kernel, by decide⟩
theorem okX10_send : am_ok mX10_send 2 := ⟨wd_974, wd_918, by decide, by decide +kernel, by decide⟩
theorem okX10_canTurn : am_ok mX10_canTurn 2 := ⟨wd_975, wd_918, by decide, by decide +kernel, by decide⟩
theorem okX10_turns : am_ok mX10_turns 2 := ⟨wd_976, wd_918, by decide, by decide +kernel, by decide⟩
theorem okX10_turn : am_ok mX10_turn 2 := ⟨wd_977, wd_918, by decide, by decide +kernel, by decide⟩
theorem okX10_asks : am_ok mX10_asks 1 := ⟨wd_978, wd_918, by decide, by decide +kernel, by decide⟩
theorem okX10_choices : am_ok mX10_choices 0 := ⟨wd_979, wd_918, by decide, by decide +kernel, by decide⟩
theorem okX10_choice : am_ok mX10_choice 1 := ⟨wd_980, wd_918, by decide, by decide +kernel, by decide⟩
theorem okX10_chosen : am_ok mX10_chosen 1 := ⟨wd_981, wd_918, by decide, by decide +kernel, by decide⟩
theorem okX10_isRest : am_ok mX10_isRest 1 := ⟨wd_982, wd_918, by decide, by decide +kernel, by decide⟩
theorem okX10_rests : am_ok mX10_rests 0 := ⟨wd_983, wd_918, by decide, by decide +kernel, by decide⟩
theorem okX10_rest : am_ok mX10_rest 1 := ⟨wd_984, wd_918, by decide, by decide +kernel, by decide⟩
theorem okX10_tell : am_ok mX10_tell 1 := ⟨wd_985, wd_918, by decide, by decide +kernel, by decide⟩
theorem okX10_clear : am_ok mX10_clear 0 := ⟨wd_986, wd_918, by decide, by decide +kernel, by decide⟩
theorem okX10_judged : am_ok mX10_judged 1 := ⟨wd_987, wd_918, by decide, by decide +kernel, by decide⟩
theorem okX10_firsts : am_ok mX10_firsts 1 := ⟨wd_988, wd_918, by decide, by decide +kernel, by decide⟩
theorem okX10_chance : am_ok mX10_chance 1 := ⟨wd_989, wd_918, by decide, by decide +kernel, by decide⟩
theorem okX10_likely : am_ok mX10_likely 2 := ⟨wd_990, wd_918, by decide, by decide +kernel, by decide⟩
theorem okX10_mean : am_ok mX10_mean 2 := ⟨wd_991, wd_918, by decide, by decide +kernel, by decide⟩
theorem okX10_came : am_ok mX10_came 1 := ⟨wd_992, wd_918, by decide, by decide +kernel, by decide⟩
theorem okX10_draws : am_ok mX10_draws 1 := ⟨wd_993, wd_918, by decide, by decide +kernel, by decide⟩
theorem okX10_lots : am_ok mX10_lots 3 := ⟨wd_994, wd_918, by decide, by decide +kernel, by decide⟩
theorem okX10_best : am_ok mX10_best 0 := ⟨wd_995, wd_918, by decide, by decide +kernel, by decide⟩
theorem okX10_mark : am_ok mX10_mark 2 := ⟨wd_996, wd_918, by decide, by decide +kernel, by decide⟩
theorem okX10_count : am_ok mX10_count 1 := ⟨wd_997, wd_918, by decide, by decide +kernel, by decide⟩
end
