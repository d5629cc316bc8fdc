section
-- ===== PART A: goes FIRST, ahead of the names: the tables' words, and 'selects' of the private methods out of them =====
/-- a private method of a class that the tables say can be made, by its rows of tables_1 -/
def lw_okq (q : MethodName × Nat) : Prop := (q.1.cls ≠ "java/lang/invoke/MethodHandle" ∧ q.1.cls ≠ "java/lang/invoke/VarHandle") ∧ Cond.instantiable q.1.cls q.2 ∈ tables_1 ∧ Cond.privateMethod q.1 ∈ tables_1 ∧ Cond.instanceMethod q.1 ∈ tables_1
theorem lw_p0 : lw_okq (⟨"EvenFerry$Tape", "signAt", "(I)C"⟩, 5) := ⟨⟨by decide +kernel, by decide +kernel⟩, List.mem_of_getElem? (i := 164) (by decide +kernel), List.mem_of_getElem? (i := 477) (by decide +kernel), List.mem_of_getElem? (i := 478) (by decide +kernel)⟩
theorem lw_p1 : lw_okq (⟨"EvenFerry$Tape", "endOfWord", "(I)I"⟩, 5) := ⟨⟨by decide +kernel, by decide +kernel⟩, List.mem_of_getElem? (i := 164) (by decide +kernel), List.mem_of_getElem? (i := 484) (by decide +kernel), List.mem_of_getElem? (i := 485) (by decide +kernel)⟩
theorem lw_p2 : lw_okq (⟨"EvenFerry$Tape", "wordKind", "(II)I"⟩, 5) := ⟨⟨by decide +kernel, by decide +kernel⟩, List.mem_of_getElem? (i := 164) (by decide +kernel), List.mem_of_getElem? (i := 488) (by decide +kernel), List.mem_of_getElem? (i := 489) (by decide +kernel)⟩
theorem lw_p3 : lw_okq (⟨"EvenFerry$Tape", "isWord", "(III)Z"⟩, 5) := ⟨⟨by decide +kernel, by decide +kernel⟩, List.mem_of_getElem? (i := 164) (by decide +kernel), List.mem_of_getElem? (i := 503) (by decide +kernel), List.mem_of_getElem? (i := 504) (by decide +kernel)⟩
theorem lw_p4 : lw_okq (⟨"EvenFerry$Tape", "add", "(II)V"⟩, 5) := ⟨⟨by decide +kernel, by decide +kernel⟩, List.mem_of_getElem? (i := 164) (by decide +kernel), List.mem_of_getElem? (i := 545) (by decide +kernel), List.mem_of_getElem? (i := 546) (by decide +kernel)⟩
theorem lw_p5 : lw_okq (⟨"EvenFerry$Tape", "endOfNumber", "(I)I"⟩, 5) := ⟨⟨by decide +kernel, by decide +kernel⟩, List.mem_of_getElem? (i := 164) (by decide +kernel), List.mem_of_getElem? (i := 555) (by decide +kernel), List.mem_of_getElem? (i := 556) (by decide +kernel)⟩
theorem lw_p6 : lw_okq (⟨"EvenFerry$Parser", "kind", "()I"⟩, 8) := ⟨⟨by decide +kernel, by decide +kernel⟩, List.mem_of_getElem? (i := 191) (by decide +kernel), List.mem_of_getElem? (i := 622) (by decide +kernel), List.mem_of_getElem? (i := 623) (by decide +kernel)⟩
theorem lw_p7 : lw_okq (⟨"EvenFerry$Parser", "line", "()V"⟩, 8) := ⟨⟨by decide +kernel, by decide +kernel⟩, List.mem_of_getElem? (i := 191) (by decide +kernel), List.mem_of_getElem? (i := 626) (by decide +kernel), List.mem_of_getElem? (i := 627) (by decide +kernel)⟩
theorem lw_p8 : lw_okq (⟨"EvenFerry$Parser", "lineToldOnce", "(I)V"⟩, 8) := ⟨⟨by decide +kernel, by decide +kernel⟩, List.mem_of_getElem? (i := 191) (by decide +kernel), List.mem_of_getElem? (i := 630) (by decide +kernel), List.mem_of_getElem? (i := 631) (by decide +kernel)⟩
theorem lw_p9 : lw_okq (⟨"EvenFerry$Parser", "wrong", "(I)V"⟩, 8) := ⟨⟨by decide +kernel, by decide +kernel⟩, List.mem_of_getElem? (i := 191) (by decide +kernel), List.mem_of_getElem? (i := 634) (by decide +kernel), List.mem_of_getElem? (i := 635) (by decide +kernel)⟩
theorem lw_p10 : lw_okq (⟨"EvenFerry$Parser", "step", "()V"⟩, 8) := ⟨⟨by decide +kernel, by decide +kernel⟩, List.mem_of_getElem? (i := 191) (by decide +kernel), List.mem_of_getElem? (i := 638) (by decide +kernel), List.mem_of_getElem? (i := 639) (by decide +kernel)⟩
theorem lw_p11 : lw_okq (⟨"EvenFerry$Parser", "number", "(II)I"⟩, 8) := ⟨⟨by decide +kernel, by decide +kernel⟩, List.mem_of_getElem? (i := 191) (by decide +kernel), List.mem_of_getElem? (i := 642) (by decide +kernel), List.mem_of_getElem? (i := 643) (by decide +kernel)⟩
theorem lw_p12 : lw_okq (⟨"EvenFerry$Parser", "expect", "(I)V"⟩, 8) := ⟨⟨by decide +kernel, by decide +kernel⟩, List.mem_of_getElem? (i := 191) (by decide +kernel), List.mem_of_getElem? (i := 653) (by decide +kernel), List.mem_of_getElem? (i := 654) (by decide +kernel)⟩
theorem lw_p13 : lw_okq (⟨"EvenFerry$Parser", "lawLine", "()V"⟩, 8) := ⟨⟨by decide +kernel, by decide +kernel⟩, List.mem_of_getElem? (i := 191) (by decide +kernel), List.mem_of_getElem? (i := 657) (by decide +kernel), List.mem_of_getElem? (i := 658) (by decide +kernel)⟩
theorem lw_p14 : lw_okq (⟨"EvenFerry$Parser", "chain", "(II)V"⟩, 8) := ⟨⟨by decide +kernel, by decide +kernel⟩, List.mem_of_getElem? (i := 191) (by decide +kernel), List.mem_of_getElem? (i := 661) (by decide +kernel), List.mem_of_getElem? (i := 662) (by decide +kernel)⟩
theorem lw_p15 : lw_okq (⟨"EvenFerry$Parser", "part", "(I)V"⟩, 8) := ⟨⟨by decide +kernel, by decide +kernel⟩, List.mem_of_getElem? (i := 191) (by decide +kernel), List.mem_of_getElem? (i := 665) (by decide +kernel), List.mem_of_getElem? (i := 666) (by decide +kernel)⟩
def lw_privs_1 : List (MethodName × Nat) := [(⟨"EvenFerry$Tape", "signAt", "(I)C"⟩, 5), (⟨"EvenFerry$Tape", "endOfWord", "(I)I"⟩, 5), (⟨"EvenFerry$Tape", "wordKind", "(II)I"⟩, 5), (⟨"EvenFerry$Tape", "isWord", "(III)Z"⟩, 5), (⟨"EvenFerry$Tape", "add", "(II)V"⟩, 5), (⟨"EvenFerry$Tape", "endOfNumber", "(I)I"⟩, 5), (⟨"EvenFerry$Parser", "kind", "()I"⟩, 8), (⟨"EvenFerry$Parser", "line", "()V"⟩, 8), (⟨"EvenFerry$Parser", "lineToldOnce", "(I)V"⟩, 8), (⟨"EvenFerry$Parser", "wrong", "(I)V"⟩, 8), (⟨"EvenFerry$Parser", "step", "()V"⟩, 8), (⟨"EvenFerry$Parser", "number", "(II)I"⟩, 8), (⟨"EvenFerry$Parser", "expect", "(I)V"⟩, 8), (⟨"EvenFerry$Parser", "lawLine", "()V"⟩, 8), (⟨"EvenFerry$Parser", "chain", "(II)V"⟩, 8), (⟨"EvenFerry$Parser", "part", "(I)V"⟩, 8)]
theorem lw_r1 : ∀ q ∈ lw_privs_1, lw_okq q := List.forall_mem_cons.mpr ⟨lw_p0, List.forall_mem_cons.mpr ⟨lw_p1, List.forall_mem_cons.mpr ⟨lw_p2, List.forall_mem_cons.mpr ⟨lw_p3, List.forall_mem_cons.mpr ⟨lw_p4, List.forall_mem_cons.mpr ⟨lw_p5, List.forall_mem_cons.mpr ⟨lw_p6, List.forall_mem_cons.mpr ⟨lw_p7, List.forall_mem_cons.mpr ⟨lw_p8, List.forall_mem_cons.mpr ⟨lw_p9, List.forall_mem_cons.mpr ⟨lw_p10, List.forall_mem_cons.mpr ⟨lw_p11, List.forall_mem_cons.mpr ⟨lw_p12, List.forall_mem_cons.mpr ⟨lw_p13, List.forall_mem_cons.mpr ⟨lw_p14, List.forall_mem_cons.mpr ⟨lw_p15, fun _ h => absurd h List.not_mem_nil⟩⟩⟩⟩⟩⟩⟩⟩⟩⟩⟩⟩⟩⟩⟩⟩
theorem lw_p16 : lw_okq (⟨"EvenFerry$Parser", "write", "(I)V"⟩, 8) := ⟨⟨by decide +kernel, by decide +kernel⟩, List.mem_of_getElem? (i := 191) (by decide +kernel), List.mem_of_getElem? (i := 669) (by decide +kernel), List.mem_of_getElem? (i := 670) (by decide +kernel)⟩
theorem lw_p17 : lw_okq (⟨"EvenFerry$Parser", "personLine", "()V"⟩, 8) := ⟨⟨by decide +kernel, by decide +kernel⟩, List.mem_of_getElem? (i := 191) (by decide +kernel), List.mem_of_getElem? (i := 682) (by decide +kernel), List.mem_of_getElem? (i := 683) (by decide +kernel)⟩
theorem lw_p18 : lw_okq (⟨"EvenFerry$Parser", "name", "()V"⟩, 8) := ⟨⟨by decide +kernel, by decide +kernel⟩, List.mem_of_getElem? (i := 191) (by decide +kernel), List.mem_of_getElem? (i := 686) (by decide +kernel), List.mem_of_getElem? (i := 687) (by decide +kernel)⟩
theorem lw_p19 : lw_okq (⟨"EvenFerry$Parser", "sideWord", "()I"⟩, 8) := ⟨⟨by decide +kernel, by decide +kernel⟩, List.mem_of_getElem? (i := 191) (by decide +kernel), List.mem_of_getElem? (i := 695) (by decide +kernel), List.mem_of_getElem? (i := 696) (by decide +kernel)⟩
theorem lw_p20 : lw_okq (⟨"EvenFerry$Parser", "kindWord", "()I"⟩, 8) := ⟨⟨by decide +kernel, by decide +kernel⟩, List.mem_of_getElem? (i := 191) (by decide +kernel), List.mem_of_getElem? (i := 699) (by decide +kernel), List.mem_of_getElem? (i := 700) (by decide +kernel)⟩
theorem lw_p21 : lw_okq (⟨"EvenFerry", "forget", "()V"⟩, 9) := ⟨⟨by decide +kernel, by decide +kernel⟩, List.mem_of_getElem? (i := 25) (by decide +kernel), List.mem_of_getElem? (i := 736) (by decide +kernel), List.mem_of_getElem? (i := 737) (by decide +kernel)⟩
theorem lw_p22 : lw_okq (⟨"EvenFerry", "isPerson", "(I)Z"⟩, 9) := ⟨⟨by decide +kernel, by decide +kernel⟩, List.mem_of_getElem? (i := 25) (by decide +kernel), List.mem_of_getElem? (i := 745) (by decide +kernel), List.mem_of_getElem? (i := 746) (by decide +kernel)⟩
theorem lw_p23 : lw_okq (⟨"EvenFerry", "knowDay", "()V"⟩, 9) := ⟨⟨by decide +kernel, by decide +kernel⟩, List.mem_of_getElem? (i := 25) (by decide +kernel), List.mem_of_getElem? (i := 758) (by decide +kernel), List.mem_of_getElem? (i := 759) (by decide +kernel)⟩
theorem lw_p24 : lw_okq (⟨"EvenFerry$Day", "bankOf", "(I)LEvenFerry$Bank;"⟩, 18) := ⟨⟨by decide +kernel, by decide +kernel⟩, List.mem_of_getElem? (i := 255) (by decide +kernel), List.mem_of_getElem? (i := 794) (by decide +kernel), List.mem_of_getElem? (i := 795) (by decide +kernel)⟩
theorem lw_p25 : lw_okq (⟨"EvenFerry$Day", "freeBoat", "(I)I"⟩, 18) := ⟨⟨by decide +kernel, by decide +kernel⟩, List.mem_of_getElem? (i := 255) (by decide +kernel), List.mem_of_getElem? (i := 810) (by decide +kernel), List.mem_of_getElem? (i := 811) (by decide +kernel)⟩
theorem lw_p26 : lw_okq (⟨"EvenFerry$Day", "gatherFacts", "(I)V"⟩, 18) := ⟨⟨by decide +kernel, by decide +kernel⟩, List.mem_of_getElem? (i := 255) (by decide +kernel), List.mem_of_getElem? (i := 814) (by decide +kernel), List.mem_of_getElem? (i := 815) (by decide +kernel)⟩
theorem lw_p27 : lw_okq (⟨"EvenFerry$Day", "earliest", "(LEvenFerry$Bank;I)I"⟩, 18) := ⟨⟨by decide +kernel, by decide +kernel⟩, List.mem_of_getElem? (i := 255) (by decide +kernel), List.mem_of_getElem? (i := 826) (by decide +kernel), List.mem_of_getElem? (i := 827) (by decide +kernel)⟩
theorem lw_p28 : lw_okq (⟨"EvenFerry$Day", "board", "(LEvenFerry$Bank;I)I"⟩, 18) := ⟨⟨by decide +kernel, by decide +kernel⟩, List.mem_of_getElem? (i := 255) (by decide +kernel), List.mem_of_getElem? (i := 845) (by decide +kernel), List.mem_of_getElem? (i := 846) (by decide +kernel)⟩
theorem lw_p29 : lw_okq (⟨"EvenFerry$Day", "firstHolding", "(II)I"⟩, 18) := ⟨⟨by decide +kernel, by decide +kernel⟩, List.mem_of_getElem? (i := 255) (by decide +kernel), List.mem_of_getElem? (i := 858) (by decide +kernel), List.mem_of_getElem? (i := 859) (by decide +kernel)⟩
theorem lw_p30 : lw_okq (⟨"EvenFerry", "nightBits", "()I"⟩, 9) := ⟨⟨by decide +kernel, by decide +kernel⟩, List.mem_of_getElem? (i := 25) (by decide +kernel), List.mem_of_getElem? (i := 891) (by decide +kernel), List.mem_of_getElem? (i := 892) (by decide +kernel)⟩
theorem lw_p31 : lw_okq (⟨"EvenFerry", "heads", "(II)I"⟩, 9) := ⟨⟨by decide +kernel, by decide +kernel⟩, List.mem_of_getElem? (i := 25) (by decide +kernel), List.mem_of_getElem? (i := 902) (by decide +kernel), List.mem_of_getElem? (i := 903) (by decide +kernel)⟩
def lw_privs_2 : List (MethodName × Nat) := [(⟨"EvenFerry$Parser", "write", "(I)V"⟩, 8), (⟨"EvenFerry$Parser", "personLine", "()V"⟩, 8), (⟨"EvenFerry$Parser", "name", "()V"⟩, 8), (⟨"EvenFerry$Parser", "sideWord", "()I"⟩, 8), (⟨"EvenFerry$Parser", "kindWord", "()I"⟩, 8), (⟨"EvenFerry", "forget", "()V"⟩, 9), (⟨"EvenFerry", "isPerson", "(I)Z"⟩, 9), (⟨"EvenFerry", "knowDay", "()V"⟩, 9), (⟨"EvenFerry$Day", "bankOf", "(I)LEvenFerry$Bank;"⟩, 18), (⟨"EvenFerry$Day", "freeBoat", "(I)I"⟩, 18), (⟨"EvenFerry$Day", "gatherFacts", "(I)V"⟩, 18), (⟨"EvenFerry$Day", "earliest", "(LEvenFerry$Bank;I)I"⟩, 18), (⟨"EvenFerry$Day", "board", "(LEvenFerry$Bank;I)I"⟩, 18), (⟨"EvenFerry$Day", "firstHolding", "(II)I"⟩, 18), (⟨"EvenFerry", "nightBits", "()I"⟩, 9), (⟨"EvenFerry", "heads", "(II)I"⟩, 9)]
theorem lw_r2 : ∀ q ∈ lw_privs_2, lw_okq q := List.forall_mem_cons.mpr ⟨lw_p16, List.forall_mem_cons.mpr ⟨lw_p17, List.forall_mem_cons.mpr ⟨lw_p18, List.forall_mem_cons.mpr ⟨lw_p19, List.forall_mem_cons.mpr ⟨lw_p20, List.forall_mem_cons.mpr ⟨lw_p21, List.forall_mem_cons.mpr ⟨lw_p22, List.forall_mem_cons.mpr ⟨lw_p23, List.forall_mem_cons.mpr ⟨lw_p24, List.forall_mem_cons.mpr ⟨lw_p25, List.forall_mem_cons.mpr ⟨lw_p26, List.forall_mem_cons.mpr ⟨lw_p27, List.forall_mem_cons.mpr ⟨lw_p28, List.forall_mem_cons.mpr ⟨lw_p29, List.forall_mem_cons.mpr ⟨lw_p30, List.forall_mem_cons.mpr ⟨lw_p31, fun _ h => absurd h List.not_mem_nil⟩⟩⟩⟩⟩⟩⟩⟩⟩⟩⟩⟩⟩⟩⟩⟩
theorem lw_p32 : lw_okq (⟨"EvenFerry", "waitsAt", "(III)Z"⟩, 9) := ⟨⟨by decide +kernel, by decide +kernel⟩, List.mem_of_getElem? (i := 25) (by decide +kernel), List.mem_of_getElem? (i := 906) (by decide +kernel), List.mem_of_getElem? (i := 907) (by decide +kernel)⟩
theorem lw_p33 : lw_okq (⟨"EvenFerry", "together", "([III)I"⟩, 9) := ⟨⟨by decide +kernel, by decide +kernel⟩, List.mem_of_getElem? (i := 25) (by decide +kernel), List.mem_of_getElem? (i := 914) (by decide +kernel), List.mem_of_getElem? (i := 915) (by decide +kernel)⟩
theorem lw_p34 : lw_okq (⟨"EvenFerry", "beginTrial", "(I)V"⟩, 9) := ⟨⟨by decide +kernel, by decide +kernel⟩, List.mem_of_getElem? (i := 25) (by decide +kernel), List.mem_of_getElem? (i := 922) (by decide +kernel), List.mem_of_getElem? (i := 923) (by decide +kernel)⟩
theorem lw_p35 : lw_okq (⟨"EvenFerry", "mayTurn", "(II)Z"⟩, 9) := ⟨⟨by decide +kernel, by decide +kernel⟩, List.mem_of_getElem? (i := 25) (by decide +kernel), List.mem_of_getElem? (i := 936) (by decide +kernel), List.mem_of_getElem? (i := 937) (by decide +kernel)⟩
theorem lw_p36 : lw_okq (⟨"EvenFerry", "gainByTurning", "(II)I"⟩, 9) := ⟨⟨by decide +kernel, by decide +kernel⟩, List.mem_of_getElem? (i := 25) (by decide +kernel), List.mem_of_getElem? (i := 940) (by decide +kernel), List.mem_of_getElem? (i := 941) (by decide +kernel)⟩
theorem lw_p37 : lw_okq (⟨"EvenFerry$Choices", "findCheapest", "(I)V"⟩, 7) := ⟨⟨by decide +kernel, by decide +kernel⟩, List.mem_of_getElem? (i := 354) (by decide +kernel), List.mem_of_getElem? (i := 967) (by decide +kernel), List.mem_of_getElem? (i := 968) (by decide +kernel)⟩
theorem lw_p38 : lw_okq (⟨"EvenFerry$Choices", "findResting", "(II)V"⟩, 7) := ⟨⟨by decide +kernel, by decide +kernel⟩, List.mem_of_getElem? (i := 354) (by decide +kernel), List.mem_of_getElem? (i := 971) (by decide +kernel), List.mem_of_getElem? (i := 972) (by decide +kernel)⟩
theorem lw_p39 : lw_okq (⟨"EvenFerry$Choices", "isAtRest", "(II)Z"⟩, 7) := ⟨⟨by decide +kernel, by decide +kernel⟩, List.mem_of_getElem? (i := 354) (by decide +kernel), List.mem_of_getElem? (i := 975) (by decide +kernel), List.mem_of_getElem? (i := 976) (by decide +kernel)⟩
theorem lw_p40 : lw_okq (⟨"EvenFerry", "levels", "(IZ)J"⟩, 9) := ⟨⟨by decide +kernel, by decide +kernel⟩, List.mem_of_getElem? (i := 25) (by decide +kernel), List.mem_of_getElem? (i := 1024) (by decide +kernel), List.mem_of_getElem? (i := 1025) (by decide +kernel)⟩
theorem lw_p41 : lw_okq (⟨"EvenFerry$Lots", "drawCrowd", "(LEvenFerry$River;)V"⟩, 10) := ⟨⟨by decide +kernel, by decide +kernel⟩, List.mem_of_getElem? (i := 388) (by decide +kernel), List.mem_of_getElem? (i := 1058) (by decide +kernel), List.mem_of_getElem? (i := 1059) (by decide +kernel)⟩
theorem lw_p42 : lw_okq (⟨"EvenFerry$Lots", "draw", "(I)I"⟩, 10) := ⟨⟨by decide +kernel, by decide +kernel⟩, List.mem_of_getElem? (i := 388) (by decide +kernel), List.mem_of_getElem? (i := 1062) (by decide +kernel), List.mem_of_getElem? (i := 1063) (by decide +kernel)⟩
theorem lw_p43 : lw_okq (⟨"EvenFerry$Lots", "addUp", "(LEvenFerry$Day;)V"⟩, 10) := ⟨⟨by decide +kernel, by decide +kernel⟩, List.mem_of_getElem? (i := 388) (by decide +kernel), List.mem_of_getElem? (i := 1073) (by decide +kernel), List.mem_of_getElem? (i := 1074) (by decide +kernel)⟩
theorem lw_p44 : lw_okq (⟨"java/lang/Throwable", "fillInStackTrace", "(I)Ljava/lang/Throwable;"⟩, 6) := ⟨⟨by decide +kernel, by decide +kernel⟩, List.mem_of_getElem? (i := 1140) (by decide +kernel), List.mem_of_getElem? (i := 1138) (by decide +kernel), List.mem_of_getElem? (i := 1139) (by decide +kernel)⟩
theorem lw_p45 : lw_okq (⟨"EvenFerryModel", "starts0", "(I)V"⟩, 55) := ⟨⟨by decide +kernel, by decide +kernel⟩, List.mem_of_getElem? (i := 1169) (by decide +kernel), List.mem_of_getElem? (i := 1175) (by decide +kernel), List.mem_of_getElem? (i := 1176) (by decide +kernel)⟩
theorem lw_p46 : lw_okq (⟨"EvenFerryModel", "readsAll", "()Z"⟩, 55) := ⟨⟨by decide +kernel, by decide +kernel⟩, List.mem_of_getElem? (i := 1169) (by decide +kernel), List.mem_of_getElem? (i := 1359) (by decide +kernel), List.mem_of_getElem? (i := 1360) (by decide +kernel)⟩
theorem lw_p47 : lw_okq (⟨"EvenFerryModel", "nextToken", "()V"⟩, 55) := ⟨⟨by decide +kernel, by decide +kernel⟩, List.mem_of_getElem? (i := 1169) (by decide +kernel), List.mem_of_getElem? (i := 1363) (by decide +kernel), List.mem_of_getElem? (i := 1364) (by decide +kernel)⟩
def lw_privs_3 : List (MethodName × Nat) := [(⟨"EvenFerry", "waitsAt", "(III)Z"⟩, 9), (⟨"EvenFerry", "together", "([III)I"⟩, 9), (⟨"EvenFerry", "beginTrial", "(I)V"⟩, 9), (⟨"EvenFerry", "mayTurn", "(II)Z"⟩, 9), (⟨"EvenFerry", "gainByTurning", "(II)I"⟩, 9), (⟨"EvenFerry$Choices", "findCheapest", "(I)V"⟩, 7), (⟨"EvenFerry$Choices", "findResting", "(II)V"⟩, 7), (⟨"EvenFerry$Choices", "isAtRest", "(II)Z"⟩, 7), (⟨"EvenFerry", "levels", "(IZ)J"⟩, 9), (⟨"EvenFerry$Lots", "drawCrowd", "(LEvenFerry$River;)V"⟩, 10), (⟨"EvenFerry$Lots", "draw", "(I)I"⟩, 10), (⟨"EvenFerry$Lots", "addUp", "(LEvenFerry$Day;)V"⟩, 10), (⟨"java/lang/Throwable", "fillInStackTrace", "(I)Ljava/lang/Throwable;"⟩, 6), (⟨"EvenFerryModel", "starts0", "(I)V"⟩, 55), (⟨"EvenFerryModel", "readsAll", "()Z"⟩, 55), (⟨"EvenFerryModel", "nextToken", "()V"⟩, 55)]
theorem lw_r3 : ∀ q ∈ lw_privs_3, lw_okq q := List.forall_mem_cons.mpr ⟨lw_p32, List.forall_mem_cons.mpr ⟨lw_p33, List.forall_mem_cons.mpr ⟨lw_p34, List.forall_mem_cons.mpr ⟨lw_p35, List.forall_mem_cons.mpr ⟨lw_p36, List.forall_mem_cons.mpr ⟨lw_p37, List.forall_mem_cons.mpr ⟨lw_p38, List.forall_mem_cons.mpr ⟨lw_p39, List.forall_mem_cons.mpr ⟨lw_p40, List.forall_mem_cons.mpr ⟨lw_p41, List.forall_mem_cons.mpr ⟨lw_p42, List.forall_mem_cons.mpr ⟨lw_p43, List.forall_mem_cons.mpr ⟨lw_p44, List.forall_mem_cons.mpr ⟨lw_p45, List.forall_mem_cons.mpr ⟨lw_p46, List.forall_mem_cons.mpr ⟨lw_p47, fun _ h => absurd h List.not_mem_nil⟩⟩⟩⟩⟩⟩⟩⟩⟩⟩⟩⟩⟩⟩⟩⟩
theorem lw_p48 : lw_okq (⟨"EvenFerryModel", "signAt", "(I)I"⟩, 55) := ⟨⟨by decide +kernel, by decide +kernel⟩, List.mem_of_getElem? (i := 1169) (by decide +kernel), List.mem_of_getElem? (i := 1367) (by decide +kernel), List.mem_of_getElem? (i := 1368) (by decide +kernel)⟩
theorem lw_p49 : lw_okq (⟨"EvenFerryModel", "isWord", "(J)Z"⟩, 55) := ⟨⟨by decide +kernel, by decide +kernel⟩, List.mem_of_getElem? (i := 1169) (by decide +kernel), List.mem_of_getElem? (i := 1374) (by decide +kernel), List.mem_of_getElem? (i := 1375) (by decide +kernel)⟩
theorem lw_p50 : lw_okq (⟨"EvenFerryModel", "readsOne", "(III)Z"⟩, 55) := ⟨⟨by decide +kernel, by decide +kernel⟩, List.mem_of_getElem? (i := 1169) (by decide +kernel), List.mem_of_getElem? (i := 1378) (by decide +kernel), List.mem_of_getElem? (i := 1379) (by decide +kernel)⟩
theorem lw_p51 : lw_okq (⟨"EvenFerryModel", "fails", "(I)Z"⟩, 55) := ⟨⟨by decide +kernel, by decide +kernel⟩, List.mem_of_getElem? (i := 1169) (by decide +kernel), List.mem_of_getElem? (i := 1382) (by decide +kernel), List.mem_of_getElem? (i := 1383) (by decide +kernel)⟩
theorem lw_p52 : lw_okq (⟨"EvenFerryModel", "needsNumber", "(II)Z"⟩, 55) := ⟨⟨by decide +kernel, by decide +kernel⟩, List.mem_of_getElem? (i := 1169) (by decide +kernel), List.mem_of_getElem? (i := 1386) (by decide +kernel), List.mem_of_getElem? (i := 1387) (by decide +kernel)⟩
theorem lw_p53 : lw_okq (⟨"EvenFerryModel", "ends", "()Z"⟩, 55) := ⟨⟨by decide +kernel, by decide +kernel⟩, List.mem_of_getElem? (i := 1169) (by decide +kernel), List.mem_of_getElem? (i := 1393) (by decide +kernel), List.mem_of_getElem? (i := 1394) (by decide +kernel)⟩
theorem lw_p54 : lw_okq (⟨"EvenFerryModel", "isSign", "(I)Z"⟩, 55) := ⟨⟨by decide +kernel, by decide +kernel⟩, List.mem_of_getElem? (i := 1169) (by decide +kernel), List.mem_of_getElem? (i := 1397) (by decide +kernel), List.mem_of_getElem? (i := 1398) (by decide +kernel)⟩
theorem lw_p55 : lw_okq (⟨"EvenFerryModel", "readsSide", "()Z"⟩, 55) := ⟨⟨by decide +kernel, by decide +kernel⟩, List.mem_of_getElem? (i := 1169) (by decide +kernel), List.mem_of_getElem? (i := 1404) (by decide +kernel), List.mem_of_getElem? (i := 1405) (by decide +kernel)⟩
theorem lw_p56 : lw_okq (⟨"EvenFerryModel", "needsWord", "(J)Z"⟩, 55) := ⟨⟨by decide +kernel, by decide +kernel⟩, List.mem_of_getElem? (i := 1169) (by decide +kernel), List.mem_of_getElem? (i := 1409) (by decide +kernel), List.mem_of_getElem? (i := 1410) (by decide +kernel)⟩
theorem lw_p57 : lw_okq (⟨"EvenFerryModel", "readsLaw", "()Z"⟩, 55) := ⟨⟨by decide +kernel, by decide +kernel⟩, List.mem_of_getElem? (i := 1169) (by decide +kernel), List.mem_of_getElem? (i := 1416) (by decide +kernel), List.mem_of_getElem? (i := 1417) (by decide +kernel)⟩
theorem lw_p58 : lw_okq (⟨"EvenFerryModel", "reads", "()Z"⟩, 55) := ⟨⟨by decide +kernel, by decide +kernel⟩, List.mem_of_getElem? (i := 1169) (by decide +kernel), List.mem_of_getElem? (i := 1420) (by decide +kernel), List.mem_of_getElem? (i := 1421) (by decide +kernel)⟩
theorem lw_p59 : lw_okq (⟨"EvenFerryModel", "fact", "()I"⟩, 55) := ⟨⟨by decide +kernel, by decide +kernel⟩, List.mem_of_getElem? (i := 1169) (by decide +kernel), List.mem_of_getElem? (i := 1424) (by decide +kernel), List.mem_of_getElem? (i := 1425) (by decide +kernel)⟩
theorem lw_p60 : lw_okq (⟨"EvenFerryModel", "puts", "(I)V"⟩, 55) := ⟨⟨by decide +kernel, by decide +kernel⟩, List.mem_of_getElem? (i := 1169) (by decide +kernel), List.mem_of_getElem? (i := 1435) (by decide +kernel), List.mem_of_getElem? (i := 1436) (by decide +kernel)⟩
theorem lw_p61 : lw_okq (⟨"EvenFerryModel", "readsPerson", "()Z"⟩, 55) := ⟨⟨by decide +kernel, by decide +kernel⟩, List.mem_of_getElem? (i := 1169) (by decide +kernel), List.mem_of_getElem? (i := 1442) (by decide +kernel), List.mem_of_getElem? (i := 1443) (by decide +kernel)⟩
theorem lw_p62 : lw_okq (⟨"EvenFerryModel", "isKept", "()Z"⟩, 55) := ⟨⟨by decide +kernel, by decide +kernel⟩, List.mem_of_getElem? (i := 1169) (by decide +kernel), List.mem_of_getElem? (i := 1446) (by decide +kernel), List.mem_of_getElem? (i := 1447) (by decide +kernel)⟩
theorem lw_p63 : lw_okq (⟨"EvenFerryModel", "kindAt", "()I"⟩, 55) := ⟨⟨by decide +kernel, by decide +kernel⟩, List.mem_of_getElem? (i := 1169) (by decide +kernel), List.mem_of_getElem? (i := 1459) (by decide +kernel), List.mem_of_getElem? (i := 1460) (by decide +kernel)⟩
def lw_privs_4 : List (MethodName × Nat) := [(⟨"EvenFerryModel", "signAt", "(I)I"⟩, 55), (⟨"EvenFerryModel", "isWord", "(J)Z"⟩, 55), (⟨"EvenFerryModel", "readsOne", "(III)Z"⟩, 55), (⟨"EvenFerryModel", "fails", "(I)Z"⟩, 55), (⟨"EvenFerryModel", "needsNumber", "(II)Z"⟩, 55), (⟨"EvenFerryModel", "ends", "()Z"⟩, 55), (⟨"EvenFerryModel", "isSign", "(I)Z"⟩, 55), (⟨"EvenFerryModel", "readsSide", "()Z"⟩, 55), (⟨"EvenFerryModel", "needsWord", "(J)Z"⟩, 55), (⟨"EvenFerryModel", "readsLaw", "()Z"⟩, 55), (⟨"EvenFerryModel", "reads", "()Z"⟩, 55), (⟨"EvenFerryModel", "fact", "()I"⟩, 55), (⟨"EvenFerryModel", "puts", "(I)V"⟩, 55), (⟨"EvenFerryModel", "readsPerson", "()Z"⟩, 55), (⟨"EvenFerryModel", "isKept", "()Z"⟩, 55), (⟨"EvenFerryModel", "kindAt", "()I"⟩, 55)]
theorem lw_r4 : ∀ q ∈ lw_privs_4, lw_okq q := List.forall_mem_cons.mpr ⟨lw_p48, List.forall_mem_cons.mpr ⟨lw_p49, List.forall_mem_cons.mpr ⟨lw_p50, List.forall_mem_cons.mpr ⟨lw_p51, List.forall_mem_cons.mpr ⟨lw_p52, List.forall_mem_cons.mpr ⟨lw_p53, List.forall_mem_cons.mpr ⟨lw_p54, List.forall_mem_cons.mpr ⟨lw_p55, List.forall_mem_cons.mpr ⟨lw_p56, List.forall_mem_cons.mpr ⟨lw_p57, List.forall_mem_cons.mpr ⟨lw_p58, List.forall_mem_cons.mpr ⟨lw_p59, List.forall_mem_cons.mpr ⟨lw_p60, List.forall_mem_cons.mpr ⟨lw_p61, List.forall_mem_cons.mpr ⟨lw_p62, List.forall_mem_cons.mpr ⟨lw_p63, fun _ h => absurd h List.not_mem_nil⟩⟩⟩⟩⟩⟩⟩⟩⟩⟩⟩⟩⟩⟩⟩⟩
theorem lw_p64 : lw_okq (⟨"EvenFerryModel", "choosers", "(I)I"⟩, 55) := ⟨⟨by decide +kernel, by decide +kernel⟩, List.mem_of_getElem? (i := 1169) (by decide +kernel), List.mem_of_getElem? (i := 1463) (by decide +kernel), List.mem_of_getElem? (i := 1464) (by decide +kernel)⟩
theorem lw_p65 : lw_okq (⟨"EvenFerryModel", "lays", "(II)V"⟩, 55) := ⟨⟨by decide +kernel, by decide +kernel⟩, List.mem_of_getElem? (i := 1169) (by decide +kernel), List.mem_of_getElem? (i := 1467) (by decide +kernel), List.mem_of_getElem? (i := 1468) (by decide +kernel)⟩
theorem lw_p66 : lw_okq (⟨"EvenFerryModel", "isPerson", "(I)Z"⟩, 55) := ⟨⟨by decide +kernel, by decide +kernel⟩, List.mem_of_getElem? (i := 1169) (by decide +kernel), List.mem_of_getElem? (i := 1478) (by decide +kernel), List.mem_of_getElem? (i := 1479) (by decide +kernel)⟩
theorem lw_p67 : lw_okq (⟨"EvenFerryModel", "day", "(I)V"⟩, 55) := ⟨⟨by decide +kernel, by decide +kernel⟩, List.mem_of_getElem? (i := 1169) (by decide +kernel), List.mem_of_getElem? (i := 1493) (by decide +kernel), List.mem_of_getElem? (i := 1494) (by decide +kernel)⟩
theorem lw_p68 : lw_okq (⟨"EvenFerryModel", "tellsAll", "(I)V"⟩, 55) := ⟨⟨by decide +kernel, by decide +kernel⟩, List.mem_of_getElem? (i := 1169) (by decide +kernel), List.mem_of_getElem? (i := 1497) (by decide +kernel), List.mem_of_getElem? (i := 1498) (by decide +kernel)⟩
theorem lw_p69 : lw_okq (⟨"EvenFerryModel", "dawns", "()V"⟩, 55) := ⟨⟨by decide +kernel, by decide +kernel⟩, List.mem_of_getElem? (i := 1169) (by decide +kernel), List.mem_of_getElem? (i := 1501) (by decide +kernel), List.mem_of_getElem? (i := 1502) (by decide +kernel)⟩
theorem lw_p70 : lw_okq (⟨"EvenFerryModel", "joins", "(IIIII)V"⟩, 55) := ⟨⟨by decide +kernel, by decide +kernel⟩, List.mem_of_getElem? (i := 1169) (by decide +kernel), List.mem_of_getElem? (i := 1506) (by decide +kernel), List.mem_of_getElem? (i := 1507) (by decide +kernel)⟩
theorem lw_p71 : lw_okq (⟨"EvenFerryModel", "goesOn", "(II)V"⟩, 55) := ⟨⟨by decide +kernel, by decide +kernel⟩, List.mem_of_getElem? (i := 1169) (by decide +kernel), List.mem_of_getElem? (i := 1510) (by decide +kernel), List.mem_of_getElem? (i := 1511) (by decide +kernel)⟩
theorem lw_p72 : lw_okq (⟨"EvenFerryModel", "wouldRing", "(I)Z"⟩, 55) := ⟨⟨by decide +kernel, by decide +kernel⟩, List.mem_of_getElem? (i := 1169) (by decide +kernel), List.mem_of_getElem? (i := 1514) (by decide +kernel), List.mem_of_getElem? (i := 1515) (by decide +kernel)⟩
theorem lw_p73 : lw_okq (⟨"EvenFerryModel", "isWaiting", "(II)Z"⟩, 55) := ⟨⟨by decide +kernel, by decide +kernel⟩, List.mem_of_getElem? (i := 1169) (by decide +kernel), List.mem_of_getElem? (i := 1518) (by decide +kernel), List.mem_of_getElem? (i := 1519) (by decide +kernel)⟩
theorem lw_p74 : lw_okq (⟨"EvenFerryModel", "worked", "(I)I"⟩, 55) := ⟨⟨by decide +kernel, by decide +kernel⟩, List.mem_of_getElem? (i := 1169) (by decide +kernel), List.mem_of_getElem? (i := 1522) (by decide +kernel), List.mem_of_getElem? (i := 1523) (by decide +kernel)⟩
theorem lw_p75 : lw_okq (⟨"EvenFerryModel", "opens", "(I)V"⟩, 55) := ⟨⟨by decide +kernel, by decide +kernel⟩, List.mem_of_getElem? (i := 1169) (by decide +kernel), List.mem_of_getElem? (i := 1526) (by decide +kernel), List.mem_of_getElem? (i := 1527) (by decide +kernel)⟩
theorem lw_p76 : lw_okq (⟨"EvenFerryModel", "sums", "(I)V"⟩, 55) := ⟨⟨by decide +kernel, by decide +kernel⟩, List.mem_of_getElem? (i := 1169) (by decide +kernel), List.mem_of_getElem? (i := 1530) (by decide +kernel), List.mem_of_getElem? (i := 1531) (by decide +kernel)⟩
theorem lw_p77 : lw_okq (⟨"EvenFerryModel", "tests", "(I)V"⟩, 55) := ⟨⟨by decide +kernel, by decide +kernel⟩, List.mem_of_getElem? (i := 1169) (by decide +kernel), List.mem_of_getElem? (i := 1534) (by decide +kernel), List.mem_of_getElem? (i := 1535) (by decide +kernel)⟩
theorem lw_p78 : lw_okq (⟨"EvenFerryModel", "ringsOnce", "(I)V"⟩, 55) := ⟨⟨by decide +kernel, by decide +kernel⟩, List.mem_of_getElem? (i := 1169) (by decide +kernel), List.mem_of_getElem? (i := 1538) (by decide +kernel), List.mem_of_getElem? (i := 1539) (by decide +kernel)⟩
theorem lw_p79 : lw_okq (⟨"EvenFerryModel", "leaves", "(II)I"⟩, 55) := ⟨⟨by decide +kernel, by decide +kernel⟩, List.mem_of_getElem? (i := 1169) (by decide +kernel), List.mem_of_getElem? (i := 1542) (by decide +kernel), List.mem_of_getElem? (i := 1543) (by decide +kernel)⟩
def lw_privs_5 : List (MethodName × Nat) := [(⟨"EvenFerryModel", "choosers", "(I)I"⟩, 55), (⟨"EvenFerryModel", "lays", "(II)V"⟩, 55), (⟨"EvenFerryModel", "isPerson", "(I)Z"⟩, 55), (⟨"EvenFerryModel", "day", "(I)V"⟩, 55), (⟨"EvenFerryModel", "tellsAll", "(I)V"⟩, 55), (⟨"EvenFerryModel", "dawns", "()V"⟩, 55), (⟨"EvenFerryModel", "joins", "(IIIII)V"⟩, 55), (⟨"EvenFerryModel", "goesOn", "(II)V"⟩, 55), (⟨"EvenFerryModel", "wouldRing", "(I)Z"⟩, 55), (⟨"EvenFerryModel", "isWaiting", "(II)Z"⟩, 55), (⟨"EvenFerryModel", "worked", "(I)I"⟩, 55), (⟨"EvenFerryModel", "opens", "(I)V"⟩, 55), (⟨"EvenFerryModel", "sums", "(I)V"⟩, 55), (⟨"EvenFerryModel", "tests", "(I)V"⟩, 55), (⟨"EvenFerryModel", "ringsOnce", "(I)V"⟩, 55), (⟨"EvenFerryModel", "leaves", "(II)I"⟩, 55)]
theorem lw_r5 : ∀ q ∈ lw_privs_5, lw_okq q := List.forall_mem_cons.mpr ⟨lw_p64, List.forall_mem_cons.mpr ⟨lw_p65, List.forall_mem_cons.mpr ⟨lw_p66, List.forall_mem_cons.mpr ⟨lw_p67, List.forall_mem_cons.mpr ⟨lw_p68, List.forall_mem_cons.mpr ⟨lw_p69, List.forall_mem_cons.mpr ⟨lw_p70, List.forall_mem_cons.mpr ⟨lw_p71, List.forall_mem_cons.mpr ⟨lw_p72, List.forall_mem_cons.mpr ⟨lw_p73, List.forall_mem_cons.mpr ⟨lw_p74, List.forall_mem_cons.mpr ⟨lw_p75, List.forall_mem_cons.mpr ⟨lw_p76, List.forall_mem_cons.mpr ⟨lw_p77, List.forall_mem_cons.mpr ⟨lw_p78, List.forall_mem_cons.mpr ⟨lw_p79, fun _ h => absurd h List.not_mem_nil⟩⟩⟩⟩⟩⟩⟩⟩⟩⟩⟩⟩⟩⟩⟩⟩
theorem lw_p80 : lw_okq (⟨"EvenFerryModel", "firstOf", "(II)I"⟩, 55) := ⟨⟨by decide +kernel, by decide +kernel⟩, List.mem_of_getElem? (i := 1169) (by decide +kernel), List.mem_of_getElem? (i := 1546) (by decide +kernel), List.mem_of_getElem? (i := 1547) (by decide +kernel)⟩
theorem lw_p81 : lw_okq (⟨"EvenFerryModel", "waitOf", "(I)I"⟩, 55) := ⟨⟨by decide +kernel, by decide +kernel⟩, List.mem_of_getElem? (i := 1169) (by decide +kernel), List.mem_of_getElem? (i := 1558) (by decide +kernel), List.mem_of_getElem? (i := 1559) (by decide +kernel)⟩
theorem lw_p82 : lw_okq (⟨"EvenFerryModel", "costAll", "(I)I"⟩, 55) := ⟨⟨by decide +kernel, by decide +kernel⟩, List.mem_of_getElem? (i := 1169) (by decide +kernel), List.mem_of_getElem? (i := 1566) (by decide +kernel), List.mem_of_getElem? (i := 1567) (by decide +kernel)⟩
theorem lw_p83 : lw_okq (⟨"EvenFerryModel", "waitsBehind", "(II)Z"⟩, 55) := ⟨⟨by decide +kernel, by decide +kernel⟩, List.mem_of_getElem? (i := 1169) (by decide +kernel), List.mem_of_getElem? (i := 1577) (by decide +kernel), List.mem_of_getElem? (i := 1578) (by decide +kernel)⟩
theorem lw_p84 : lw_okq (⟨"EvenFerryModel", "ringsBy", "(III)Z"⟩, 55) := ⟨⟨by decide +kernel, by decide +kernel⟩, List.mem_of_getElem? (i := 1169) (by decide +kernel), List.mem_of_getElem? (i := 1585) (by decide +kernel), List.mem_of_getElem? (i := 1586) (by decide +kernel)⟩
theorem lw_p85 : lw_okq (⟨"EvenFerryModel", "canTurn", "(II)Z"⟩, 55) := ⟨⟨by decide +kernel, by decide +kernel⟩, List.mem_of_getElem? (i := 1169) (by decide +kernel), List.mem_of_getElem? (i := 1593) (by decide +kernel), List.mem_of_getElem? (i := 1594) (by decide +kernel)⟩
theorem lw_p86 : lw_okq (⟨"EvenFerryModel", "turns", "(II)I"⟩, 55) := ⟨⟨by decide +kernel, by decide +kernel⟩, List.mem_of_getElem? (i := 1169) (by decide +kernel), List.mem_of_getElem? (i := 1597) (by decide +kernel), List.mem_of_getElem? (i := 1598) (by decide +kernel)⟩
theorem lw_p87 : lw_okq (⟨"EvenFerryModel", "choices", "()I"⟩, 55) := ⟨⟨by decide +kernel, by decide +kernel⟩, List.mem_of_getElem? (i := 1169) (by decide +kernel), List.mem_of_getElem? (i := 1609) (by decide +kernel), List.mem_of_getElem? (i := 1610) (by decide +kernel)⟩
theorem lw_p88 : lw_okq (⟨"EvenFerryModel", "isRest", "(I)Z"⟩, 55) := ⟨⟨by decide +kernel, by decide +kernel⟩, List.mem_of_getElem? (i := 1169) (by decide +kernel), List.mem_of_getElem? (i := 1621) (by decide +kernel), List.mem_of_getElem? (i := 1622) (by decide +kernel)⟩
theorem lw_p89 : lw_okq (⟨"EvenFerryModel", "chance", "(I)J"⟩, 55) := ⟨⟨by decide +kernel, by decide +kernel⟩, List.mem_of_getElem? (i := 1169) (by decide +kernel), List.mem_of_getElem? (i := 1646) (by decide +kernel), List.mem_of_getElem? (i := 1647) (by decide +kernel)⟩
theorem lw_p90 : lw_okq (⟨"EvenFerryModel", "draws", "(I)I"⟩, 55) := ⟨⟨by decide +kernel, by decide +kernel⟩, List.mem_of_getElem? (i := 1169) (by decide +kernel), List.mem_of_getElem? (i := 1669) (by decide +kernel), List.mem_of_getElem? (i := 1670) (by decide +kernel)⟩
def lw_privs_6 : List (MethodName × Nat) := [(⟨"EvenFerryModel", "firstOf", "(II)I"⟩, 55), (⟨"EvenFerryModel", "waitOf", "(I)I"⟩, 55), (⟨"EvenFerryModel", "costAll", "(I)I"⟩, 55), (⟨"EvenFerryModel", "waitsBehind", "(II)Z"⟩, 55), (⟨"EvenFerryModel", "ringsBy", "(III)Z"⟩, 55), (⟨"EvenFerryModel", "canTurn", "(II)Z"⟩, 55), (⟨"EvenFerryModel", "turns", "(II)I"⟩, 55), (⟨"EvenFerryModel", "choices", "()I"⟩, 55), (⟨"EvenFerryModel", "isRest", "(I)Z"⟩, 55), (⟨"EvenFerryModel", "chance", "(I)J"⟩, 55), (⟨"EvenFerryModel", "draws", "(I)I"⟩, 55)]
theorem lw_r6 : ∀ q ∈ lw_privs_6, lw_okq q := List.forall_mem_cons.mpr ⟨lw_p80, List.forall_mem_cons.mpr ⟨lw_p81, List.forall_mem_cons.mpr ⟨lw_p82, List.forall_mem_cons.mpr ⟨lw_p83, List.forall_mem_cons.mpr ⟨lw_p84, List.forall_mem_cons.mpr ⟨lw_p85, List.forall_mem_cons.mpr ⟨lw_p86, List.forall_mem_cons.mpr ⟨lw_p87, List.forall_mem_cons.mpr ⟨lw_p88, List.forall_mem_cons.mpr ⟨lw_p89, List.forall_mem_cons.mpr ⟨lw_p90, fun _ h => absurd h List.not_mem_nil⟩⟩⟩⟩⟩⟩⟩⟩⟩⟩⟩
def lw_privs : List (MethodName × Nat) := lw_privs_1 ++ (lw_privs_2 ++ (lw_privs_3 ++ (lw_privs_4 ++ (lw_privs_5 ++ (lw_privs_6)))))
def lw_tbl : List Cond := k2_sels lw_privs ++ tables_1
theorem lw_privs_ok : ∀ q ∈ lw_privs, lw_okq q := by
  show ∀ q ∈ lw_privs_1 ++ (lw_privs_2 ++ (lw_privs_3 ++ (lw_privs_4 ++ (lw_privs_5 ++ (lw_privs_6))))), lw_okq q
  exact List.forall_mem_append.mpr ⟨lw_r1, List.forall_mem_append.mpr ⟨lw_r2, List.forall_mem_append.mpr ⟨lw_r3, List.forall_mem_append.mpr ⟨lw_r4, List.forall_mem_append.mpr ⟨lw_r5, lw_r6⟩⟩⟩⟩⟩
end
section
def RX0 : String := "EvenFerry$Bank"
def TX0 : u_T := fun k => match k with
  | 0 => ("EvenFerry$Bank", "row", "[I", true)
  | 1 => ("EvenFerry$Bank", "head", "I", false)
  | 2 => ("EvenFerry$Bank", "tail", "I", false)
  | 3 => ("EvenFerry$Bank", "counts", "I", false)
  | 4 => ("EvenFerry$Bank", "load", "I", false)
  | _ => ("EvenFerry$Bank", "guests", "I", false)
def tyX0 : Nat → FieldType := fun k => match k with
  | 0 => .array .int
  | 1 => .int
  | 2 => .int
  | 3 => .int
  | 4 => .int
  | _ => .int
theorem nmX0 : ∀ a, a < 6 → ∀ b, b < 6 → a ≠ b → (TX0 a).2.1 ≠ (TX0 b).2.1 := by decide +kernel
theorem tyX0_ok : ∀ k, k < 6 → parseFieldDescriptor (TX0 k).2.2.1 = some (tyX0 k) := by decide +kernel
abbrev cX0_init : ByteArray := prog_2_method_1_code
def yX0_init : MethodName := ⟨RX0, "<init>", "(I)V"⟩
abbrev cX0_empty : ByteArray := prog_2_method_2_code
def yX0_empty : MethodName := ⟨RX0, "empty", "()V"⟩
abbrev cX0_join : ByteArray := prog_2_method_3_code
def yX0_join : MethodName := ⟨RX0, "join", "(ILEvenFerry$Crowd;)V"⟩
abbrev cX0_leaveFirst : ByteArray := prog_2_method_4_code
def yX0_leaveFirst : MethodName := ⟨RX0, "leaveFirst", "(LEvenFerry$Crowd;)V"⟩
abbrev cX0_leave : ByteArray := prog_2_method_5_code
def yX0_leave : MethodName := ⟨RX0, "leave", "(ILEvenFerry$Crowd;)V"⟩
abbrev cX0_size : ByteArray := prog_2_method_6_code
def yX0_size : MethodName := ⟨RX0, "size", "()I"⟩
abbrev cX0_countWithGuests : ByteArray := prog_2_method_7_code
def yX0_countWithGuests : MethodName := ⟨RX0, "countWithGuests", "()I"⟩
abbrev cX0_loadWithGuests : ByteArray := prog_2_method_8_code
def yX0_loadWithGuests : MethodName := ⟨RX0, "loadWithGuests", "()I"⟩
def RX1 : String := "EvenFerry$Choices"
def TX1 : u_T := fun k => match k with
  | 0 => ("EvenFerry$Choices", "costs", "[I", true)
  | 1 => ("EvenFerry$Choices", "ownCosts", "[I", true)
  | 2 => ("EvenFerry$Choices", "restBits", "[I", true)
  | 3 => ("EvenFerry$Choices", "sides", "[I", true)
  | 4 => ("EvenFerry$Choices", "cheapest", "I", false)
  | 5 => ("EvenFerry$Choices", "resting", "I", false)
  | _ => ("EvenFerry$Choices", "known", "Z", false)
def tyX1 : Nat → FieldType := fun k => match k with
  | 0 => .array .int
  | 1 => .array .int
  | 2 => .array .int
  | 3 => .array .int
  | 4 => .int
  | 5 => .int
  | _ => .boolean
theorem nmX1 : ∀ a, a < 7 → ∀ b, b < 7 → a ≠ b → (TX1 a).2.1 ≠ (TX1 b).2.1 := by decide +kernel
theorem tyX1_ok : ∀ k, k < 7 → parseFieldDescriptor (TX1 k).2.2.1 = some (tyX1 k) := by decide +kernel
abbrev cX1_init : ByteArray := prog_3_method_1_code
def yX1_init : MethodName := ⟨RX1, "<init>", "()V"⟩
abbrev cX1_weigh : ByteArray := prog_3_method_2_code
def yX1_weigh : MethodName := ⟨RX1, "weigh", "(LEvenFerry$State;LEvenFerry$Day;)V"⟩
abbrev cX1_seat : ByteArray := prog_3_method_3_code
def yX1_seat : MethodName := ⟨RX1, "seat", "(LEvenFerry$River;I)V"⟩
abbrev cX1_findCheapest : ByteArray := prog_3_method_4_code
def yX1_findCheapest : MethodName := ⟨RX1, "findCheapest", "(I)V"⟩
abbrev cX1_findResting : ByteArray := prog_3_method_5_code
def yX1_findResting : MethodName := ⟨RX1, "findResting", "(II)V"⟩
abbrev cX1_isAtRest : ByteArray := prog_3_method_6_code
def yX1_isAtRest : MethodName := ⟨RX1, "isAtRest", "(II)Z"⟩
def RX2 : String := "EvenFerry$Crowd"
def TX2 : u_T := fun k => match k with
  | 0 => ("EvenFerry$Crowd", "times", "[I", true)
  | 1 => ("EvenFerry$Crowd", "sides", "[I", true)
  | 2 => ("EvenFerry$Crowd", "weights", "[I", true)
  | 3 => ("EvenFerry$Crowd", "counts", "[I", true)
  | 4 => ("EvenFerry$Crowd", "order", "[I", true)
  | _ => ("EvenFerry$Crowd", "size", "I", false)
def tyX2 : Nat → FieldType := fun k => match k with
  | 0 => .array .int
  | 1 => .array .int
  | 2 => .array .int
  | 3 => .array .int
  | 4 => .array .int
  | _ => .int
theorem nmX2 : ∀ a, a < 6 → ∀ b, b < 6 → a ≠ b → (TX2 a).2.1 ≠ (TX2 b).2.1 := by decide +kernel
theorem tyX2_ok : ∀ k, k < 6 → parseFieldDescriptor (TX2 k).2.2.1 = some (tyX2 k) := by decide +kernel
abbrev cX2_init : ByteArray := prog_4_method_1_code
def yX2_init : MethodName := ⟨RX2, "<init>", "(I)V"⟩
abbrev cX2_add : ByteArray := prog_4_method_2_code
def yX2_add : MethodName := ⟨RX2, "add", "(IIII)V"⟩
abbrev cX2_timeAt : ByteArray := prog_4_method_3_code
def yX2_timeAt : MethodName := ⟨RX2, "timeAt", "(I)I"⟩
def RX3 : String := "EvenFerry$Day"
def TX3 : u_T := fun k => match k with
  | 0 => ("EvenFerry$Day", "left", "LEvenFerry$Bank;", true)
  | 1 => ("EvenFerry$Day", "right", "LEvenFerry$Bank;", true)
  | 2 => ("EvenFerry$Day", "goesAt", "[I", true)
  | 3 => ("EvenFerry$Day", "goesBy", "[I", true)
  | 4 => ("EvenFerry$Day", "ringMinutes", "[I", true)
  | 5 => ("EvenFerry$Day", "fromLeft", "[I", true)
  | 6 => ("EvenFerry$Day", "fromRight", "[I", true)
  | 7 => ("EvenFerry$Day", "boatBack", "[I", true)
  | 8 => ("EvenFerry$Day", "facts", "[I", true)
  | 9 => ("EvenFerry$Day", "stack", "[I", true)
  | 10 => ("EvenFerry$Day", "ringings", "I", false)
  | 11 => ("EvenFerry$Day", "next", "I", false)
  | 12 => ("EvenFerry$Day", "river", "LEvenFerry$River;", false)
  | 13 => ("EvenFerry$Day", "crowd", "LEvenFerry$Crowd;", false)
  | 14 => ("EvenFerry$Day", "sides", "[I", false)
  | 15 => ("EvenFerry$Day", "law", "I", false)
  | 16 => ("EvenFerry$Day", "leaver", "I", false)
  | _ => ("EvenFerry$Day", "leaving", "I", false)
def tyX3 : Nat → FieldType := fun k => match k with
  | 0 => .object "EvenFerry$Bank"
  | 1 => .object "EvenFerry$Bank"
  | 2 => .array .int
  | 3 => .array .int
  | 4 => .array .int
  | 5 => .array .int
  | 6 => .array .int
  | 7 => .array .int
  | 8 => .array .int
  | 9 => .array .int
  | 10 => .int
  | 11 => .int
  | 12 => .object "EvenFerry$River"
  | 13 => .object "EvenFerry$Crowd"
  | 14 => .array .int
  | 15 => .int
  | 16 => .int
  | _ => .int
theorem nmX3 : ∀ a, a < 18 → ∀ b, b < 18 → a ≠ b → (TX3 a).2.1 ≠ (TX3 b).2.1 := by decide +kernel
theorem tyX3_ok : ∀ k, k < 18 → parseFieldDescriptor (TX3 k).2.2.1 = some (tyX3 k) := by decide +kernel
abbrev cX3_init : ByteArray := prog_5_method_1_code
def yX3_init : MethodName := ⟨RX3, "<init>", "(LEvenFerry$River;I)V"⟩
abbrev cX3_begin : ByteArray := prog_5_method_2_code
def yX3_begin : MethodName := ⟨RX3, "begin", "(LEvenFerry$River;ILEvenFerry$Crowd;[I)V"⟩
abbrev cX3_letGoHome : ByteArray := prog_5_method_3_code
def yX3_letGoHome : MethodName := ⟨RX3, "letGoHome", "(II)V"⟩
abbrev cX3_run : ByteArray := prog_5_method_4_code
def yX3_run : MethodName := ⟨RX3, "run", "(I)V"⟩
abbrev cX3_soonest : ByteArray := prog_5_method_5_code
def yX3_soonest : MethodName := ⟨RX3, "soonest", "(I)I"⟩
abbrev cX3_firstHolding : ByteArray := prog_5_method_6_code
def yX3_firstHolding : MethodName := ⟨RX3, "firstHolding", "(II)I"⟩
abbrev cX3_come : ByteArray := prog_5_method_7_code
def yX3_come : MethodName := ⟨RX3, "come", "(I)V"⟩
abbrev cX3_bankOf : ByteArray := prog_5_method_8_code
def yX3_bankOf : MethodName := ⟨RX3, "bankOf", "(I)LEvenFerry$Bank;"⟩
abbrev cX3_wouldRing : ByteArray := prog_5_method_9_code
def yX3_wouldRing : MethodName := ⟨RX3, "wouldRing", "(I)Z"⟩
abbrev cX3_wouldRingWith : ByteArray := prog_5_method_10_code
def yX3_wouldRingWith : MethodName := ⟨RX3, "wouldRingWith", "(III)Z"⟩
abbrev cX3_freeBoat : ByteArray := prog_5_method_11_code
def yX3_freeBoat : MethodName := ⟨RX3, "freeBoat", "(I)I"⟩
abbrev cX3_gatherFacts : ByteArray := prog_5_method_12_code
def yX3_gatherFacts : MethodName := ⟨RX3, "gatherFacts", "(I)V"⟩
abbrev cX3_earliest : ByteArray := prog_5_method_13_code
def yX3_earliest : MethodName := ⟨RX3, "earliest", "(LEvenFerry$Bank;I)I"⟩
abbrev cX3_goOver : ByteArray := prog_5_method_14_code
def yX3_goOver : MethodName := ⟨RX3, "goOver", "(I)V"⟩
abbrev cX3_board : ByteArray := prog_5_method_15_code
def yX3_board : MethodName := ⟨RX3, "board", "(LEvenFerry$Bank;I)I"⟩
abbrev cX3_misjudged : ByteArray := prog_5_method_16_code
def yX3_misjudged : MethodName := ⟨RX3, "misjudged", "([II)I"⟩
abbrev cX3_isWaitingBehind : ByteArray := prog_5_method_17_code
def yX3_isWaitingBehind : MethodName := ⟨RX3, "isWaitingBehind", "(II)Z"⟩
abbrev cX3_waitOf : ByteArray := prog_5_method_18_code
def yX3_waitOf : MethodName := ⟨RX3, "waitOf", "(I)I"⟩
abbrev cX3_longestWait : ByteArray := prog_5_method_19_code
def yX3_longestWait : MethodName := ⟨RX3, "longestWait", "()I"⟩
abbrev cX3_costOf : ByteArray := prog_5_method_20_code
def yX3_costOf : MethodName := ⟨RX3, "costOf", "(I)I"⟩
abbrev cX3_costWithout : ByteArray := prog_5_method_21_code
def yX3_costWithout : MethodName := ⟨RX3, "costWithout", "(I)I"⟩
def RX4 : String := "EvenFerry$Lots"
def TX4 : u_T := fun k => match k with
  | 0 => ("EvenFerry$Lots", "crowd", "LEvenFerry$Crowd;", true)
  | 1 => ("EvenFerry$Lots", "known", "Z", false)
  | 2 => ("EvenFerry$Lots", "knownSeed", "I", false)
  | 3 => ("EvenFerry$Lots", "knownDays", "I", false)
  | 4 => ("EvenFerry$Lots", "ringings", "I", false)
  | 5 => ("EvenFerry$Lots", "comers", "I", false)
  | 6 => ("EvenFerry$Lots", "waited", "I", false)
  | 7 => ("EvenFerry$Lots", "nights", "I", false)
  | 8 => ("EvenFerry$Lots", "longest", "I", false)
  | _ => ("EvenFerry$Lots", "drawn", "J", false)
def tyX4 : Nat → FieldType := fun k => match k with
  | 0 => .object "EvenFerry$Crowd"
  | 1 => .boolean
  | 2 => .int
  | 3 => .int
  | 4 => .int
  | 5 => .int
  | 6 => .int
  | 7 => .int
  | 8 => .int
  | _ => .long
theorem nmX4 : ∀ a, a < 10 → ∀ b, b < 10 → a ≠ b → (TX4 a).2.1 ≠ (TX4 b).2.1 := by decide +kernel
theorem tyX4_ok : ∀ k, k < 10 → parseFieldDescriptor (TX4 k).2.2.1 = some (tyX4 k) := by decide +kernel
abbrev cX4_init : ByteArray := prog_6_method_1_code
def yX4_init : MethodName := ⟨RX4, "<init>", "()V"⟩
abbrev cX4_isKnown : ByteArray := prog_6_method_2_code
def yX4_isKnown : MethodName := ⟨RX4, "isKnown", "(II)Z"⟩
abbrev cX4_go : ByteArray := prog_6_method_3_code
def yX4_go : MethodName := ⟨RX4, "go", "(LEvenFerry$State;LEvenFerry$Day;II)V"⟩
abbrev cX4_drawCrowd : ByteArray := prog_6_method_4_code
def yX4_drawCrowd : MethodName := ⟨RX4, "drawCrowd", "(LEvenFerry$River;)V"⟩
abbrev cX4_draw : ByteArray := prog_6_method_5_code
def yX4_draw : MethodName := ⟨RX4, "draw", "(I)I"⟩
abbrev cX4_addUp : ByteArray := prog_6_method_6_code
def yX4_addUp : MethodName := ⟨RX4, "addUp", "(LEvenFerry$Day;)V"⟩
def RX5 : String := "EvenFerry$Parser"
def TX5 : u_T := fun k => match k with
  | 0 => ("EvenFerry$Parser", "tape", "LEvenFerry$Tape;", true)
  | 1 => ("EvenFerry$Parser", "names", "[J", true)
  | 2 => ("EvenFerry$Parser", "code", "[I", true)
  | 3 => ("EvenFerry$Parser", "river", "LEvenFerry$River;", false)
  | 4 => ("EvenFerry$Parser", "written", "I", false)
  | 5 => ("EvenFerry$Parser", "token", "I", false)
  | 6 => ("EvenFerry$Parser", "fault", "I", false)
  | _ => ("EvenFerry$Parser", "toldOnce", "I", false)
def tyX5 : Nat → FieldType := fun k => match k with
  | 0 => .object "EvenFerry$Tape"
  | 1 => .array .long
  | 2 => .array .int
  | 3 => .object "EvenFerry$River"
  | 4 => .int
  | 5 => .int
  | 6 => .int
  | _ => .int
theorem nmX5 : ∀ a, a < 8 → ∀ b, b < 8 → a ≠ b → (TX5 a).2.1 ≠ (TX5 b).2.1 := by decide +kernel
theorem tyX5_ok : ∀ k, k < 8 → parseFieldDescriptor (TX5 k).2.2.1 = some (tyX5 k) := by decide +kernel
abbrev cX5_init : ByteArray := prog_7_method_1_code
def yX5_init : MethodName := ⟨RX5, "<init>", "(LEvenFerry$Tape;LEvenFerry$River;)V"⟩
abbrev cX5_read : ByteArray := prog_7_method_2_code
def yX5_read : MethodName := ⟨RX5, "read", "(LEvenFerry$River;)I"⟩
abbrev cX5_kind : ByteArray := prog_7_method_3_code
def yX5_kind : MethodName := ⟨RX5, "kind", "()I"⟩
abbrev cX5_step : ByteArray := prog_7_method_4_code
def yX5_step : MethodName := ⟨RX5, "step", "()V"⟩
abbrev cX5_wrong : ByteArray := prog_7_method_5_code
def yX5_wrong : MethodName := ⟨RX5, "wrong", "(I)V"⟩
abbrev cX5_expect : ByteArray := prog_7_method_6_code
def yX5_expect : MethodName := ⟨RX5, "expect", "(I)V"⟩
abbrev cX5_number : ByteArray := prog_7_method_7_code
def yX5_number : MethodName := ⟨RX5, "number", "(II)I"⟩
abbrev cX5_line : ByteArray := prog_7_method_8_code
def yX5_line : MethodName := ⟨RX5, "line", "()V"⟩
abbrev cX5_lineToldOnce : ByteArray := prog_7_method_9_code
def yX5_lineToldOnce : MethodName := ⟨RX5, "lineToldOnce", "(I)V"⟩
abbrev cX5_personLine : ByteArray := prog_7_method_10_code
def yX5_personLine : MethodName := ⟨RX5, "personLine", "()V"⟩
abbrev cX5_name : ByteArray := prog_7_method_11_code
def yX5_name : MethodName := ⟨RX5, "name", "()V"⟩
abbrev cX5_sideWord : ByteArray := prog_7_method_12_code
def yX5_sideWord : MethodName := ⟨RX5, "sideWord", "()I"⟩
abbrev cX5_kindWord : ByteArray := prog_7_method_13_code
def yX5_kindWord : MethodName := ⟨RX5, "kindWord", "()I"⟩
abbrev cX5_lawLine : ByteArray := prog_7_method_14_code
def yX5_lawLine : MethodName := ⟨RX5, "lawLine", "()V"⟩
abbrev cX5_write : ByteArray := prog_7_method_15_code
def yX5_write : MethodName := ⟨RX5, "write", "(I)V"⟩
abbrev cX5_chain : ByteArray := prog_7_method_16_code
def yX5_chain : MethodName := ⟨RX5, "chain", "(II)V"⟩
abbrev cX5_levelOf : ByteArray := prog_7_method_17_code
def yX5_levelOf : MethodName := ⟨RX5, "levelOf", "(I)I"⟩
abbrev cX5_part : ByteArray := prog_7_method_18_code
def yX5_part : MethodName := ⟨RX5, "part", "(I)V"⟩
def RX6 : String := "EvenFerry$River"
def TX6 : u_T := fun k => match k with
  | 0 => ("EvenFerry$River", "people", "LEvenFerry$Crowd;", true)
  | 1 => ("EvenFerry$River", "costs", "[I", true)
  | 2 => ("EvenFerry$River", "kinds", "[I", true)
  | 3 => ("EvenFerry$River", "chooserPersons", "[I", true)
  | 4 => ("EvenFerry$River", "lawStarts", "[I", true)
  | 5 => ("EvenFerry$River", "code", "[I", false)
  | 6 => ("EvenFerry$River", "room", "I", false)
  | 7 => ("EvenFerry$River", "trip", "I", false)
  | 8 => ("EvenFerry$River", "boats", "I", false)
  | 9 => ("EvenFerry$River", "first", "I", false)
  | 10 => ("EvenFerry$River", "second", "I", false)
  | 11 => ("EvenFerry$River", "come", "I", false)
  | 12 => ("EvenFerry$River", "choosers", "I", false)
  | 13 => ("EvenFerry$River", "laws", "I", false)
  | _ => ("EvenFerry$River", "timedLaws", "I", false)
def tyX6 : Nat → FieldType := fun k => match k with
  | 0 => .object "EvenFerry$Crowd"
  | 1 => .array .int
  | 2 => .array .int
  | 3 => .array .int
  | 4 => .array .int
  | 5 => .array .int
  | 6 => .int
  | 7 => .int
  | 8 => .int
  | 9 => .int
  | 10 => .int
  | 11 => .int
  | 12 => .int
  | 13 => .int
  | _ => .int
theorem nmX6 : ∀ a, a < 15 → ∀ b, b < 15 → a ≠ b → (TX6 a).2.1 ≠ (TX6 b).2.1 := by decide +kernel
theorem tyX6_ok : ∀ k, k < 15 → parseFieldDescriptor (TX6 k).2.2.1 = some (tyX6 k) := by decide +kernel
abbrev cX6_init : ByteArray := prog_8_method_1_code
def yX6_init : MethodName := ⟨RX6, "<init>", "()V"⟩
abbrev cX6_addPerson : ByteArray := prog_8_method_2_code
def yX6_addPerson : MethodName := ⟨RX6, "addPerson", "(IIIII)V"⟩
abbrev cX6_countOf : ByteArray := prog_8_method_3_code
def yX6_countOf : MethodName := ⟨RX6, "countOf", "(I)I"⟩
abbrev cX6_endLaw : ByteArray := prog_8_method_4_code
def yX6_endLaw : MethodName := ⟨RX6, "endLaw", "(I)V"⟩
abbrev cX6_isTimed : ByteArray := prog_8_method_5_code
def yX6_isTimed : MethodName := ⟨RX6, "isTimed", "(I)Z"⟩
abbrev cX6_lawValue : ByteArray := prog_8_method_6_code
def yX6_lawValue : MethodName := ⟨RX6, "lawValue", "(I[I[I)I"⟩
abbrev cX6_joined : ByteArray := prog_8_method_7_code
def yX6_joined : MethodName := ⟨RX6, "joined", "(III)I"⟩
def RX7 : String := "EvenFerry$State"
def TX7 : u_T := fun k => match k with
  | 0 => ("EvenFerry$State", "told", "[I", true)
  | 1 => ("EvenFerry$State", "river", "LEvenFerry$River;", false)
  | 2 => ("EvenFerry$State", "law", "I", false)
  | 3 => ("EvenFerry$State", "tolds", "I", false)
  | _ => ("EvenFerry$State", "laid", "Z", false)
def tyX7 : Nat → FieldType := fun k => match k with
  | 0 => .array .int
  | 1 => .object "EvenFerry$River"
  | 2 => .int
  | 3 => .int
  | _ => .boolean
theorem nmX7 : ∀ a, a < 5 → ∀ b, b < 5 → a ≠ b → (TX7 a).2.1 ≠ (TX7 b).2.1 := by decide +kernel
theorem tyX7_ok : ∀ k, k < 5 → parseFieldDescriptor (TX7 k).2.2.1 = some (tyX7 k) := by decide +kernel
abbrev cX7_init : ByteArray := prog_9_method_1_code
def yX7_init : MethodName := ⟨RX7, "<init>", "(LEvenFerry$River;)V"⟩
abbrev cX7_start : ByteArray := prog_9_method_2_code
def yX7_start : MethodName := ⟨RX7, "start", "(LEvenFerry$River;)V"⟩
abbrev cX7_take : ByteArray := prog_9_method_3_code
def yX7_take : MethodName := ⟨RX7, "take", "(LEvenFerry$State;)V"⟩
abbrev cX7_addTold : ByteArray := prog_9_method_4_code
def yX7_addTold : MethodName := ⟨RX7, "addTold", "(I)Z"⟩
abbrev cX7_isTold : ByteArray := prog_9_method_5_code
def yX7_isTold : MethodName := ⟨RX7, "isTold", "(I)Z"⟩
def RX8 : String := "EvenFerry$Tape"
def TX8 : u_T := fun k => match k with
  | 0 => ("EvenFerry$Tape", "signs", "[C", true)
  | 1 => ("EvenFerry$Tape", "kinds", "[I", true)
  | 2 => ("EvenFerry$Tape", "places", "[I", true)
  | 3 => ("EvenFerry$Tape", "length", "I", false)
  | _ => ("EvenFerry$Tape", "tokens", "I", false)
def tyX8 : Nat → FieldType := fun k => match k with
  | 0 => .array .char
  | 1 => .array .int
  | 2 => .array .int
  | 3 => .int
  | _ => .int
theorem nmX8 : ∀ a, a < 5 → ∀ b, b < 5 → a ≠ b → (TX8 a).2.1 ≠ (TX8 b).2.1 := by decide +kernel
theorem tyX8_ok : ∀ k, k < 5 → parseFieldDescriptor (TX8 k).2.2.1 = some (tyX8 k) := by decide +kernel
abbrev cX8_init : ByteArray := prog_10_method_1_code
def yX8_init : MethodName := ⟨RX8, "<init>", "()V"⟩
abbrev cX8_append : ByteArray := prog_10_method_2_code
def yX8_append : MethodName := ⟨RX8, "append", "(J)V"⟩
abbrev cX8_cut : ByteArray := prog_10_method_3_code
def yX8_cut : MethodName := ⟨RX8, "cut", "()V"⟩
abbrev cX8_add : ByteArray := prog_10_method_4_code
def yX8_add : MethodName := ⟨RX8, "add", "(II)V"⟩
abbrev cX8_signAt : ByteArray := prog_10_method_5_code
def yX8_signAt : MethodName := ⟨RX8, "signAt", "(I)C"⟩
abbrev cX8_isLetter : ByteArray := prog_10_method_6_code
def yX8_isLetter : MethodName := ⟨RX8, "isLetter", "(C)Z"⟩
abbrev cX8_isDigit : ByteArray := prog_10_method_7_code
def yX8_isDigit : MethodName := ⟨RX8, "isDigit", "(C)Z"⟩
abbrev cX8_endOfWord : ByteArray := prog_10_method_8_code
def yX8_endOfWord : MethodName := ⟨RX8, "endOfWord", "(I)I"⟩
abbrev cX8_endOfNumber : ByteArray := prog_10_method_9_code
def yX8_endOfNumber : MethodName := ⟨RX8, "endOfNumber", "(I)I"⟩
abbrev cX8_wordKind : ByteArray := prog_10_method_10_code
def yX8_wordKind : MethodName := ⟨RX8, "wordKind", "(II)I"⟩
abbrev cX8_isWord : ByteArray := prog_10_method_11_code
def yX8_isWord : MethodName := ⟨RX8, "isWord", "(III)Z"⟩
abbrev cX8_nameKey : ByteArray := prog_10_method_12_code
def yX8_nameKey : MethodName := ⟨RX8, "nameKey", "(I)J"⟩
abbrev cX8_numberValue : ByteArray := prog_10_method_13_code
def yX8_numberValue : MethodName := ⟨RX8, "numberValue", "(I)I"⟩
def RX9 : String := "EvenFerry"
def TX9 : u_T := fun k => match k with
  | 0 => ("EvenFerry", "tape", "LEvenFerry$Tape;", true)
  | 1 => ("EvenFerry", "parser", "LEvenFerry$Parser;", true)
  | 2 => ("EvenFerry", "now", "LEvenFerry$State;", true)
  | 3 => ("EvenFerry", "marks", "[LEvenFerry$State;", true)
  | 4 => ("EvenFerry", "day", "LEvenFerry$Day;", true)
  | 5 => ("EvenFerry", "trial", "LEvenFerry$Day;", true)
  | 6 => ("EvenFerry", "choices", "LEvenFerry$Choices;", true)
  | 7 => ("EvenFerry", "lots", "LEvenFerry$Lots;", true)
  | _ => ("EvenFerry", "dayKnown", "Z", false)
def tyX9 : Nat → FieldType := fun k => match k with
  | 0 => .object "EvenFerry$Tape"
  | 1 => .object "EvenFerry$Parser"
  | 2 => .object "EvenFerry$State"
  | 3 => .array (.object "EvenFerry$State")
  | 4 => .object "EvenFerry$Day"
  | 5 => .object "EvenFerry$Day"
  | 6 => .object "EvenFerry$Choices"
  | 7 => .object "EvenFerry$Lots"
  | _ => .boolean
theorem nmX9 : ∀ a, a < 9 → ∀ b, b < 9 → a ≠ b → (TX9 a).2.1 ≠ (TX9 b).2.1 := by decide +kernel
theorem tyX9_ok : ∀ k, k < 9 → parseFieldDescriptor (TX9 k).2.2.1 = some (tyX9 k) := by decide +kernel
abbrev cX9_init : ByteArray := prog_1_method_1_code
def yX9_init : MethodName := ⟨RX9, "<init>", "()V"⟩
abbrev cX9_feed : ByteArray := prog_1_method_2_code
def yX9_feed : MethodName := ⟨RX9, "feed", "(JJJ)I"⟩
abbrev cX9_river : ByteArray := prog_1_method_3_code
def yX9_river : MethodName := ⟨RX9, "river", "()I"⟩
abbrev cX9_person : ByteArray := prog_1_method_4_code
def yX9_person : MethodName := ⟨RX9, "person", "(II)I"⟩
abbrev cX9_use : ByteArray := prog_1_method_5_code
def yX9_use : MethodName := ⟨RX9, "use", "(I)Z"⟩
abbrev cX9_rings : ByteArray := prog_1_method_6_code
def yX9_rings : MethodName := ⟨RX9, "rings", "()I"⟩
abbrev cX9_ring : ByteArray := prog_1_method_7_code
def yX9_ring : MethodName := ⟨RX9, "ring", "(II)I"⟩
abbrev cX9_waits : ByteArray := prog_1_method_8_code
def yX9_waits : MethodName := ⟨RX9, "waits", "(II)I"⟩
abbrev cX9_all : ByteArray := prog_1_method_9_code
def yX9_all : MethodName := ⟨RX9, "all", "(I)I"⟩
abbrev cX9_bank : ByteArray := prog_1_method_10_code
def yX9_bank : MethodName := ⟨RX9, "bank", "(III)I"⟩
abbrev cX9_send : ByteArray := prog_1_method_11_code
def yX9_send : MethodName := ⟨RX9, "send", "(II)I"⟩
abbrev cX9_turn : ByteArray := prog_1_method_12_code
def yX9_turn : MethodName := ⟨RX9, "turn", "(II)I"⟩
abbrev cX9_asks : ByteArray := prog_1_method_13_code
def yX9_asks : MethodName := ⟨RX9, "asks", "(I)I"⟩
abbrev cX9_choice : ByteArray := prog_1_method_14_code
def yX9_choice : MethodName := ⟨RX9, "choice", "(I)I"⟩
abbrev cX9_chosen : ByteArray := prog_1_method_15_code
def yX9_chosen : MethodName := ⟨RX9, "chosen", "(I)I"⟩
abbrev cX9_rests : ByteArray := prog_1_method_16_code
def yX9_rests : MethodName := ⟨RX9, "rests", "()I"⟩
abbrev cX9_rest : ByteArray := prog_1_method_17_code
def yX9_rest : MethodName := ⟨RX9, "rest", "(I)I"⟩
abbrev cX9_tell : ByteArray := prog_1_method_18_code
def yX9_tell : MethodName := ⟨RX9, "tell", "(I)I"⟩
abbrev cX9_clear : ByteArray := prog_1_method_19_code
def yX9_clear : MethodName := ⟨RX9, "clear", "()Z"⟩
abbrev cX9_judged : ByteArray := prog_1_method_20_code
def yX9_judged : MethodName := ⟨RX9, "judged", "(I)I"⟩
abbrev cX9_likely : ByteArray := prog_1_method_21_code
def yX9_likely : MethodName := ⟨RX9, "likely", "(II)J"⟩
abbrev cX9_mean : ByteArray := prog_1_method_22_code
def yX9_mean : MethodName := ⟨RX9, "mean", "(II)J"⟩
abbrev cX9_came : ByteArray := prog_1_method_23_code
def yX9_came : MethodName := ⟨RX9, "came", "(I)J"⟩
abbrev cX9_lots : ByteArray := prog_1_method_24_code
def yX9_lots : MethodName := ⟨RX9, "lots", "(III)I"⟩
abbrev cX9_best : ByteArray := prog_1_method_25_code
def yX9_best : MethodName := ⟨RX9, "best", "()I"⟩
abbrev cX9_mark : ByteArray := prog_1_method_26_code
def yX9_mark : MethodName := ⟨RX9, "mark", "(IZ)Z"⟩
abbrev cX9_count : ByteArray := prog_1_method_27_code
def yX9_count : MethodName := ⟨RX9, "count", "(I)I"⟩
abbrev cX9_get : ByteArray := prog_1_method_28_code
def yX9_get : MethodName := ⟨RX9, "get", "([II)I"⟩
abbrev cX9_set : ByteArray := prog_1_method_29_code
def yX9_set : MethodName := ⟨RX9, "set", "([III)V"⟩
abbrev cX9_isMinute : ByteArray := prog_1_method_30_code
def yX9_isMinute : MethodName := ⟨RX9, "isMinute", "(I)Z"⟩
abbrev cX9_isPerson : ByteArray := prog_1_method_31_code
def yX9_isPerson : MethodName := ⟨RX9, "isPerson", "(I)Z"⟩
abbrev cX9_forget : ByteArray := prog_1_method_32_code
def yX9_forget : MethodName := ⟨RX9, "forget", "()V"⟩
abbrev cX9_knowDay : ByteArray := prog_1_method_33_code
def yX9_knowDay : MethodName := ⟨RX9, "knowDay", "()V"⟩
abbrev cX9_beginTrial : ByteArray := prog_1_method_34_code
def yX9_beginTrial : MethodName := ⟨RX9, "beginTrial", "(I)V"⟩
abbrev cX9_nightBits : ByteArray := prog_1_method_35_code
def yX9_nightBits : MethodName := ⟨RX9, "nightBits", "()I"⟩
abbrev cX9_waitsAt : ByteArray := prog_1_method_36_code
def yX9_waitsAt : MethodName := ⟨RX9, "waitsAt", "(III)Z"⟩
abbrev cX9_heads : ByteArray := prog_1_method_37_code
def yX9_heads : MethodName := ⟨RX9, "heads", "(II)I"⟩
abbrev cX9_together : ByteArray := prog_1_method_38_code
def yX9_together : MethodName := ⟨RX9, "together", "([III)I"⟩
abbrev cX9_mayTurn : ByteArray := prog_1_method_39_code
def yX9_mayTurn : MethodName := ⟨RX9, "mayTurn", "(II)Z"⟩
abbrev cX9_gainByTurning : ByteArray := prog_1_method_40_code
def yX9_gainByTurning : MethodName := ⟨RX9, "gainByTurning", "(II)I"⟩
abbrev cX9_levels : ByteArray := prog_1_method_41_code
def yX9_levels : MethodName := ⟨RX9, "levels", "(IZ)J"⟩
abbrev cX9_orders : ByteArray := prog_1_method_42_code
def yX9_orders : MethodName := ⟨RX9, "orders", "(I)J"⟩
abbrev cX9_power : ByteArray := prog_1_method_43_code
def yX9_power : MethodName := ⟨RX9, "power", "(JI)J"⟩
abbrev cX9_lowest : ByteArray := prog_1_method_44_code
def yX9_lowest : MethodName := ⟨RX9, "lowest", "(JJJ)J"⟩
def RX10 : String := "EvenFerryModel"
def TX10 : u_T := fun k => match k with
  | 0 => ("EvenFerryModel", "thrown", "I", false)
  | 1 => ("EvenFerryModel", "taped", "I", false)
  | 2 => ("EvenFerryModel", "tape", "[I", true)
  | 3 => ("EvenFerryModel", "size", "I", false)
  | 4 => ("EvenFerryModel", "place", "I", false)
  | 5 => ("EvenFerryModel", "begin", "I", false)
  | 6 => ("EvenFerryModel", "token", "I", false)
  | 7 => ("EvenFerryModel", "word", "J", false)
  | 8 => ("EvenFerryModel", "told", "I", false)
  | 9 => ("EvenFerryModel", "wrong", "I", false)
  | 10 => ("EvenFerryModel", "river", "[I", true)
  | 11 => ("EvenFerryModel", "lineFrom", "[I", true)
  | 12 => ("EvenFerryModel", "lineTo", "[I", true)
  | 13 => ("EvenFerryModel", "codes", "[I", true)
  | 14 => ("EvenFerryModel", "names", "[J", true)
  | 15 => ("EvenFerryModel", "sideOf", "[I", true)
  | 16 => ("EvenFerryModel", "atOf", "[I", true)
  | 17 => ("EvenFerryModel", "weightOf", "[I", true)
  | 18 => ("EvenFerryModel", "costOf", "[I", true)
  | 19 => ("EvenFerryModel", "kindOf", "[I", true)
  | 20 => ("EvenFerryModel", "tellAt", "[I", true)
  | 21 => ("EvenFerryModel", "code", "I", false)
  | 22 => ("EvenFerryModel", "isTold", "I", false)
  | 23 => ("EvenFerryModel", "opened", "[I", true)
  | 24 => ("EvenFerryModel", "compared", "[Z", true)
  | 25 => ("EvenFerryModel", "kept", "[I", true)
  | 26 => ("EvenFerryModel", "keptBy", "[I", true)
  | 27 => ("EvenFerryModel", "ahead", "[I", true)
  | 28 => ("EvenFerryModel", "against", "[I", true)
  | 29 => ("EvenFerryModel", "sum", "[I", true)
  | 30 => ("EvenFerryModel", "sumBy", "[I", true)
  | 31 => ("EvenFerryModel", "term", "[I", true)
  | 32 => ("EvenFerryModel", "termBy", "[I", true)
  | 33 => ("EvenFerryModel", "byNot", "[I", true)
  | 34 => ("EvenFerryModel", "valueOf", "[I", true)
  | 35 => ("EvenFerryModel", "given", "I", false)
  | 36 => ("EvenFerryModel", "people", "I", false)
  | 37 => ("EvenFerryModel", "side", "[I", true)
  | 38 => ("EvenFerryModel", "at", "[I", true)
  | 39 => ("EvenFerryModel", "weight", "[I", true)
  | 40 => ("EvenFerryModel", "cost", "[I", true)
  | 41 => ("EvenFerryModel", "counts", "[I", true)
  | 42 => ("EvenFerryModel", "gone", "[I", true)
  | 43 => ("EvenFerryModel", "goesBy", "[I", true)
  | 44 => ("EvenFerryModel", "rings", "I", false)
  | 45 => ("EvenFerryModel", "ringAt", "[I", true)
  | 46 => ("EvenFerryModel", "ringLeft", "[I", true)
  | 47 => ("EvenFerryModel", "ringRight", "[I", true)
  | 48 => ("EvenFerryModel", "boat0", "I", false)
  | 49 => ("EvenFerryModel", "boat1", "I", false)
  | 50 => ("EvenFerryModel", "law", "I", false)
  | 51 => ("EvenFerryModel", "choiceCost", "[I", true)
  | 52 => ("EvenFerryModel", "own", "[I", true)
  | 53 => ("EvenFerryModel", "g", "J", false)
  | _ => ("EvenFerryModel", "isLaid", "[Z", true)
def tyX10 : Nat → FieldType := fun k => match k with
  | 0 => .int
  | 1 => .int
  | 2 => .array .int
  | 3 => .int
  | 4 => .int
  | 5 => .int
  | 6 => .int
  | 7 => .long
  | 8 => .int
  | 9 => .int
  | 10 => .array .int
  | 11 => .array .int
  | 12 => .array .int
  | 13 => .array .int
  | 14 => .array .long
  | 15 => .array .int
  | 16 => .array .int
  | 17 => .array .int
  | 18 => .array .int
  | 19 => .array .int
  | 20 => .array .int
  | 21 => .int
  | 22 => .int
  | 23 => .array .int
  | 24 => .array .boolean
  | 25 => .array .int
  | 26 => .array .int
  | 27 => .array .int
  | 28 => .array .int
  | 29 => .array .int
  | 30 => .array .int
  | 31 => .array .int
  | 32 => .array .int
  | 33 => .array .int
  | 34 => .array .int
  | 35 => .int
  | 36 => .int
  | 37 => .array .int
  | 38 => .array .int
  | 39 => .array .int
  | 40 => .array .int
  | 41 => .array .int
  | 42 => .array .int
  | 43 => .array .int
  | 44 => .int
  | 45 => .array .int
  | 46 => .array .int
  | 47 => .array .int
  | 48 => .int
  | 49 => .int
  | 50 => .int
  | 51 => .array .int
  | 52 => .array .int
  | 53 => .long
  | _ => .array .boolean
theorem nmX10 : ∀ a, a < 55 → ∀ b, b < 55 → a ≠ b → (TX10 a).2.1 ≠ (TX10 b).2.1 := by decide +kernel
theorem tyX10_ok : ∀ k, k < 55 → parseFieldDescriptor (TX10 k).2.2.1 = some (tyX10 k) := by decide +kernel
abbrev cX10_init : ByteArray := prog_12_method_1_code
def yX10_init : MethodName := ⟨RX10, "<init>", "()V"⟩
abbrev cX10_thrown : ByteArray := prog_12_method_2_code
def yX10_thrown : MethodName := ⟨RX10, "thrown", "()I"⟩
abbrev cX10_within : ByteArray := prog_12_method_3_code
def yX10_within : MethodName := ⟨RX10, "within", "(III)Z"⟩
abbrev cX10_gcd : ByteArray := prog_12_method_4_code
def yX10_gcd : MethodName := ⟨RX10, "gcd", "(JJ)J"⟩
abbrev cX10_feed : ByteArray := prog_12_method_5_code
def yX10_feed : MethodName := ⟨RX10, "feed", "(JJJ)I"⟩
abbrev cX10_signAt : ByteArray := prog_12_method_6_code
def yX10_signAt : MethodName := ⟨RX10, "signAt", "(I)I"⟩
abbrev cX10_nextToken : ByteArray := prog_12_method_7_code
def yX10_nextToken : MethodName := ⟨RX10, "nextToken", "()V"⟩
abbrev cX10_isWord : ByteArray := prog_12_method_8_code
def yX10_isWord : MethodName := ⟨RX10, "isWord", "(J)Z"⟩
abbrev cX10_isSign : ByteArray := prog_12_method_9_code
def yX10_isSign : MethodName := ⟨RX10, "isSign", "(I)Z"⟩
abbrev cX10_fails : ByteArray := prog_12_method_10_code
def yX10_fails : MethodName := ⟨RX10, "fails", "(I)Z"⟩
abbrev cX10_starts0 : ByteArray := prog_12_method_11_code
def yX10_starts0 : MethodName := ⟨RX10, "starts0", "(I)V"⟩
abbrev cX10_puts : ByteArray := prog_12_method_12_code
def yX10_puts : MethodName := ⟨RX10, "puts", "(I)V"⟩
abbrev cX10_fact : ByteArray := prog_12_method_13_code
def yX10_fact : MethodName := ⟨RX10, "fact", "()I"⟩
abbrev cX10_reads : ByteArray := prog_12_method_14_code
def yX10_reads : MethodName := ⟨RX10, "reads", "()Z"⟩
abbrev cX10_opens : ByteArray := prog_12_method_15_code
def yX10_opens : MethodName := ⟨RX10, "opens", "(I)V"⟩
abbrev cX10_sums : ByteArray := prog_12_method_16_code
def yX10_sums : MethodName := ⟨RX10, "sums", "(I)V"⟩
abbrev cX10_tests : ByteArray := prog_12_method_17_code
def yX10_tests : MethodName := ⟨RX10, "tests", "(I)V"⟩
abbrev cX10_worked : ByteArray := prog_12_method_18_code
def yX10_worked : MethodName := ⟨RX10, "worked", "(I)I"⟩
abbrev cX10_isKept : ByteArray := prog_12_method_19_code
def yX10_isKept : MethodName := ⟨RX10, "isKept", "()Z"⟩
abbrev cX10_needsNumber : ByteArray := prog_12_method_20_code
def yX10_needsNumber : MethodName := ⟨RX10, "needsNumber", "(II)Z"⟩
abbrev cX10_needsWord : ByteArray := prog_12_method_21_code
def yX10_needsWord : MethodName := ⟨RX10, "needsWord", "(J)Z"⟩
abbrev cX10_ends : ByteArray := prog_12_method_22_code
def yX10_ends : MethodName := ⟨RX10, "ends", "()Z"⟩
abbrev cX10_readsOne : ByteArray := prog_12_method_23_code
def yX10_readsOne : MethodName := ⟨RX10, "readsOne", "(III)Z"⟩
abbrev cX10_readsSide : ByteArray := prog_12_method_24_code
def yX10_readsSide : MethodName := ⟨RX10, "readsSide", "()Z"⟩
abbrev cX10_readsLaw : ByteArray := prog_12_method_25_code
def yX10_readsLaw : MethodName := ⟨RX10, "readsLaw", "()Z"⟩
abbrev cX10_kindAt : ByteArray := prog_12_method_26_code
def yX10_kindAt : MethodName := ⟨RX10, "kindAt", "()I"⟩
abbrev cX10_choosers : ByteArray := prog_12_method_27_code
def yX10_choosers : MethodName := ⟨RX10, "choosers", "(I)I"⟩
abbrev cX10_readsPerson : ByteArray := prog_12_method_28_code
def yX10_readsPerson : MethodName := ⟨RX10, "readsPerson", "()Z"⟩
abbrev cX10_readsAll : ByteArray := prog_12_method_29_code
def yX10_readsAll : MethodName := ⟨RX10, "readsAll", "()Z"⟩
abbrev cX10_moves : ByteArray := prog_12_method_30_code
def yX10_moves : MethodName := ⟨RX10, "moves", "([IIII)V"⟩
abbrev cX10_lays : ByteArray := prog_12_method_31_code
def yX10_lays : MethodName := ⟨RX10, "lays", "(II)V"⟩
abbrev cX10_river : ByteArray := prog_12_method_32_code
def yX10_river : MethodName := ⟨RX10, "river", "()I"⟩
abbrev cX10_isPerson : ByteArray := prog_12_method_33_code
def yX10_isPerson : MethodName := ⟨RX10, "isPerson", "(I)Z"⟩
abbrev cX10_isMinute : ByteArray := prog_12_method_34_code
def yX10_isMinute : MethodName := ⟨RX10, "isMinute", "(I)Z"⟩
abbrev cX10_countOf : ByteArray := prog_12_method_35_code
def yX10_countOf : MethodName := ⟨RX10, "countOf", "(I)I"⟩
abbrev cX10_person : ByteArray := prog_12_method_36_code
def yX10_person : MethodName := ⟨RX10, "person", "(II)I"⟩
abbrev cX10_use : ByteArray := prog_12_method_37_code
def yX10_use : MethodName := ⟨RX10, "use", "(I)Z"⟩
abbrev cX10_joins : ByteArray := prog_12_method_38_code
def yX10_joins : MethodName := ⟨RX10, "joins", "(IIIII)V"⟩
abbrev cX10_dawns : ByteArray := prog_12_method_39_code
def yX10_dawns : MethodName := ⟨RX10, "dawns", "()V"⟩
abbrev cX10_tellsAll : ByteArray := prog_12_method_40_code
def yX10_tellsAll : MethodName := ⟨RX10, "tellsAll", "(I)V"⟩
abbrev cX10_isWaiting : ByteArray := prog_12_method_41_code
def yX10_isWaiting : MethodName := ⟨RX10, "isWaiting", "(II)Z"⟩
abbrev cX10_wouldRing : ByteArray := prog_12_method_42_code
def yX10_wouldRing : MethodName := ⟨RX10, "wouldRing", "(I)Z"⟩
abbrev cX10_firstOf : ByteArray := prog_12_method_43_code
def yX10_firstOf : MethodName := ⟨RX10, "firstOf", "(II)I"⟩
abbrev cX10_leaves : ByteArray := prog_12_method_44_code
def yX10_leaves : MethodName := ⟨RX10, "leaves", "(II)I"⟩
abbrev cX10_ringsOnce : ByteArray := prog_12_method_45_code
def yX10_ringsOnce : MethodName := ⟨RX10, "ringsOnce", "(I)V"⟩
abbrev cX10_goesOn : ByteArray := prog_12_method_46_code
def yX10_goesOn : MethodName := ⟨RX10, "goesOn", "(II)V"⟩
abbrev cX10_day : ByteArray := prog_12_method_47_code
def yX10_day : MethodName := ⟨RX10, "day", "(I)V"⟩
abbrev cX10_waitOf : ByteArray := prog_12_method_48_code
def yX10_waitOf : MethodName := ⟨RX10, "waitOf", "(I)I"⟩
abbrev cX10_costAll : ByteArray := prog_12_method_49_code
def yX10_costAll : MethodName := ⟨RX10, "costAll", "(I)I"⟩
abbrev cX10_rings : ByteArray := prog_12_method_50_code
def yX10_rings : MethodName := ⟨RX10, "rings", "()I"⟩
abbrev cX10_ring : ByteArray := prog_12_method_51_code
def yX10_ring : MethodName := ⟨RX10, "ring", "(II)I"⟩
abbrev cX10_waits : ByteArray := prog_12_method_52_code
def yX10_waits : MethodName := ⟨RX10, "waits", "(II)I"⟩
abbrev cX10_all : ByteArray := prog_12_method_53_code
def yX10_all : MethodName := ⟨RX10, "all", "(I)I"⟩
abbrev cX10_waitsBehind : ByteArray := prog_12_method_54_code
def yX10_waitsBehind : MethodName := ⟨RX10, "waitsBehind", "(II)Z"⟩
abbrev cX10_bank : ByteArray := prog_12_method_55_code
def yX10_bank : MethodName := ⟨RX10, "bank", "(III)I"⟩
abbrev cX10_ringsBy : ByteArray := prog_12_method_56_code
def yX10_ringsBy : MethodName := ⟨RX10, "ringsBy", "(III)Z"⟩
abbrev cX10_send : ByteArray := prog_12_method_57_code
def yX10_send : MethodName := ⟨RX10, "send", "(II)I"⟩
abbrev cX10_canTurn : ByteArray := prog_12_method_58_code
def yX10_canTurn : MethodName := ⟨RX10, "canTurn", "(II)Z"⟩
abbrev cX10_turns : ByteArray := prog_12_method_59_code
def yX10_turns : MethodName := ⟨RX10, "turns", "(II)I"⟩
abbrev cX10_turn : ByteArray := prog_12_method_60_code
def yX10_turn : MethodName := ⟨RX10, "turn", "(II)I"⟩
abbrev cX10_asks : ByteArray := prog_12_method_61_code
def yX10_asks : MethodName := ⟨RX10, "asks", "(I)I"⟩
abbrev cX10_choices : ByteArray := prog_12_method_62_code
def yX10_choices : MethodName := ⟨RX10, "choices", "()I"⟩
abbrev cX10_choice : ByteArray := prog_12_method_63_code
def yX10_choice : MethodName := ⟨RX10, "choice", "(I)I"⟩
abbrev cX10_chosen : ByteArray := prog_12_method_64_code
def yX10_chosen : MethodName := ⟨RX10, "chosen", "(I)I"⟩
abbrev cX10_isRest : ByteArray := prog_12_method_65_code
def yX10_isRest : MethodName := ⟨RX10, "isRest", "(I)Z"⟩
abbrev cX10_rests : ByteArray := prog_12_method_66_code
def yX10_rests : MethodName := ⟨RX10, "rests", "()I"⟩
abbrev cX10_rest : ByteArray := prog_12_method_67_code
def yX10_rest : MethodName := ⟨RX10, "rest", "(I)I"⟩
abbrev cX10_tell : ByteArray := prog_12_method_68_code
def yX10_tell : MethodName := ⟨RX10, "tell", "(I)I"⟩
abbrev cX10_clear : ByteArray := prog_12_method_69_code
def yX10_clear : MethodName := ⟨RX10, "clear", "()Z"⟩
abbrev cX10_judged : ByteArray := prog_12_method_70_code
def yX10_judged : MethodName := ⟨RX10, "judged", "(I)I"⟩
abbrev cX10_firsts : ByteArray := prog_12_method_71_code
def yX10_firsts : MethodName := ⟨RX10, "firsts", "(I)J"⟩
abbrev cX10_chance : ByteArray := prog_12_method_72_code
def yX10_chance : MethodName := ⟨RX10, "chance", "(I)J"⟩
abbrev cX10_likely : ByteArray := prog_12_method_73_code
def yX10_likely : MethodName := ⟨RX10, "likely", "(II)J"⟩
abbrev cX10_mean : ByteArray := prog_12_method_74_code
def yX10_mean : MethodName := ⟨RX10, "mean", "(II)J"⟩
abbrev cX10_came : ByteArray := prog_12_method_75_code
def yX10_came : MethodName := ⟨RX10, "came", "(I)J"⟩
abbrev cX10_draws : ByteArray := prog_12_method_76_code
def yX10_draws : MethodName := ⟨RX10, "draws", "(I)I"⟩
abbrev cX10_lots : ByteArray := prog_12_method_77_code
def yX10_lots : MethodName := ⟨RX10, "lots", "(III)I"⟩
abbrev cX10_best : ByteArray := prog_12_method_78_code
def yX10_best : MethodName := ⟨RX10, "best", "()I"⟩
abbrev cX10_mark : ByteArray := prog_12_method_79_code
def yX10_mark : MethodName := ⟨RX10, "mark", "(IZ)Z"⟩
abbrev cX10_count : ByteArray := prog_12_method_80_code
def yX10_count : MethodName := ⟨RX10, "count", "(I)I"⟩
def RJx145de : String := "java/io/Serializable"
def RJx9f9b0 : String := "java/lang/CharSequence"
def RJ11 : String := "java/lang/Character"
abbrev cJ11_isValidCodePoint_9a6ad : ByteArray := prog_15_method_11_code
def yJ11_isValidCodePoint_9a6ad : MethodName := ⟨RJ11, "isValidCodePoint", "(I)Z"⟩
abbrev cJ11_highSurrogate_5068e : ByteArray := prog_15_method_28_code
def yJ11_highSurrogate_5068e : MethodName := ⟨RJ11, "highSurrogate", "(I)C"⟩
abbrev cJ11_lowSurrogate_5068e : ByteArray := prog_15_method_29_code
def yJ11_lowSurrogate_5068e : MethodName := ⟨RJ11, "lowSurrogate", "(I)C"⟩
def RJx8e188 : String := "java/lang/Cloneable"
def RJxb160c : String := "java/lang/Comparable"
def RJ9 : String := "java/lang/Math"
abbrev cJ9_max_7cf53 : ByteArray := prog_19_method_65_code
def yJ9_max_7cf53 : MethodName := ⟨RJ9, "max", "(II)I"⟩
abbrev cJ9_min_7cf53 : ByteArray := prog_19_method_69_code
def yJ9_min_7cf53 : MethodName := ⟨RJ9, "min", "(II)I"⟩
def RJ0 : String := "java/lang/String"
abbrev cJ0_length_8abf5 : ByteArray := prog_21_method_54_code
def yJ0_length_8abf5 : MethodName := ⟨RJ0, "length", "()I"⟩
abbrev cJ0_charAt_5068e : ByteArray := prog_21_method_56_code
def yJ0_charAt_5068e : MethodName := ⟨RJ0, "charAt", "(I)C"⟩
abbrev cJ0_indexOf_0f7a4 : ByteArray := prog_21_method_79_code
def yJ0_indexOf_0f7a4 : MethodName := ⟨RJ0, "indexOf", "(I)I"⟩
abbrev cJ0_indexOf_7cf53 : ByteArray := prog_21_method_80_code
def yJ0_indexOf_7cf53 : MethodName := ⟨RJ0, "indexOf", "(II)I"⟩
abbrev cJ0_coder_7d493 : ByteArray := prog_21_method_152_code
def yJ0_coder_7d493 : MethodName := ⟨RJ0, "coder", "()B"⟩
abbrev cJ0_isLatin1_aae02 : ByteArray := prog_21_method_154_code
def yJ0_isLatin1_aae02 : MethodName := ⟨RJ0, "isLatin1", "()Z"⟩
abbrev cJ0_checkIndex_df160 : ByteArray := prog_21_method_155_code
def yJ0_checkIndex_df160 : MethodName := ⟨RJ0, "checkIndex", "(II)V"⟩
abbrev cJ0_checkBoundsBeginEnd_23922 : ByteArray := prog_21_method_158_code
def yJ0_checkBoundsBeginEnd_23922 : MethodName := ⟨RJ0, "checkBoundsBeginEnd", "(III)V"⟩
def RJ1 : String := "java/lang/StringLatin1"
abbrev cJ1_charAt_3b067 : ByteArray := prog_22_method_2_code
def yJ1_charAt_3b067 : MethodName := ⟨RJ1, "charAt", "([BI)C"⟩
abbrev cJ1_canEncode_9a6ad : ByteArray := prog_22_method_4_code
def yJ1_canEncode_9a6ad : MethodName := ⟨RJ1, "canEncode", "(I)Z"⟩
abbrev cJ1_indexOf_4cfef : ByteArray := prog_22_method_22_code
def yJ1_indexOf_4cfef : MethodName := ⟨RJ1, "indexOf", "([BIII)I"⟩
abbrev cJ1_indexOfChar_4cfef : ByteArray := prog_22_method_23_code
def yJ1_indexOfChar_4cfef : MethodName := ⟨RJ1, "indexOfChar", "([BIII)I"⟩
def RJ2 : String := "java/lang/StringUTF16"
abbrev cJ2_getChar_3b067 : ByteArray := prog_23_method_5_code
def yJ2_getChar_3b067 : MethodName := ⟨RJ2, "getChar", "([BI)C"⟩
abbrev cJ2_length_9d52b : ByteArray := prog_23_method_6_code
def yJ2_length_9d52b : MethodName := ⟨RJ2, "length", "([B)I"⟩
abbrev cJ2_indexOf_4cfef : ByteArray := prog_23_method_40_code
def yJ2_indexOf_4cfef : MethodName := ⟨RJ2, "indexOf", "([BIII)I"⟩
abbrev cJ2_indexOfChar_4cfef : ByteArray := prog_23_method_47_code
def yJ2_indexOfChar_4cfef : MethodName := ⟨RJ2, "indexOfChar", "([BIII)I"⟩
abbrev cJ2_indexOfCharUnsafe_4cfef : ByteArray := prog_23_method_48_code
def yJ2_indexOfCharUnsafe_4cfef : MethodName := ⟨RJ2, "indexOfCharUnsafe", "([BIII)I"⟩
abbrev cJ2_indexOfSupplementary_4cfef : ByteArray := prog_23_method_49_code
def yJ2_indexOfSupplementary_4cfef : MethodName := ⟨RJ2, "indexOfSupplementary", "([BIII)I"⟩
abbrev cJ2_charAt_3b067 : ByteArray := prog_23_method_83_code
def yJ2_charAt_3b067 : MethodName := ⟨RJ2, "charAt", "([BI)C"⟩
abbrev cJ2_checkIndex_2214a : ByteArray := prog_23_method_91_code
def yJ2_checkIndex_2214a : MethodName := ⟨RJ2, "checkIndex", "(I[B)V"⟩
abbrev cJ2_checkBoundsBeginEnd_d044e : ByteArray := prog_23_method_93_code
def yJ2_checkBoundsBeginEnd_d044e : MethodName := ⟨RJ2, "checkBoundsBeginEnd", "(II[B)V"⟩
def RJ10 : String := "java/lang/System"
def RJxfd54e : String := "java/lang/constant/Constable"
def RJx3cf43 : String := "java/lang/constant/ConstantDesc"
def RJ7 : String := "java/util/Arrays"
abbrev cJ7_copyOf_59c91 : ByteArray := prog_28_method_123_code
def yJ7_copyOf_59c91 : MethodName := ⟨RJ7, "copyOf", "([II)[I"⟩
def RJ3 : String := "jdk/internal/util/Preconditions"
abbrev cJ3_checkIndex_8e157 : ByteArray := prog_30_method_11_code
def yJ3_checkIndex_8e157 : MethodName := ⟨RJ3, "checkIndex", "(IILjava/util/function/BiFunction;)I"⟩
abbrev cJ3_checkFromToIndex_8c36e : ByteArray := prog_30_method_12_code
def yJ3_checkFromToIndex_8c36e : MethodName := ⟨RJ3, "checkFromToIndex", "(IIILjava/util/function/BiFunction;)I"⟩
def RL : String := "EvenFerryLaw"
abbrev cL_turn : ByteArray := method_3_code
def yL_turn : MethodName := ⟨RL, "turn", "(LEvenFerry;II[J)I"⟩
abbrev cL_law : ByteArray := code
def yL_law : MethodName := ⟨RL, "law", "([I)Z"⟩
abbrev vwCl : List vw_C := [(RX0, TX0, 6), (RX1, TX1, 7), (RX2, TX2, 6), (RX3, TX3, 18), (RX4, TX4, 10), (RX5, TX5, 8), (RX6, TX6, 15), (RX7, TX7, 5), (RX8, TX8, 5), (RX9, TX9, 9), (RX10, TX10, 55)]
end
section
/-! THE PICTURE OF THE HEAP. A cell at an address: its kind (0 .. 10 the claim's classes as in vwCl, 11 char, 12 int, 13 long, 14 boolean, 15 State arrays, others: nothing known), its length, its ints, longs, references (0: null); the heap's size; the slots made. -/
abbrev am_H : Type := (Nat → Nat) × (Nat → Nat) × (Nat → Nat → Int32) × (Nat → Nat → Int64) × (Nat → Nat → Nat) × Nat × Nat
def hK (h : am_H) : Nat → Nat := h.1
def hN (h : am_H) : Nat → Nat := h.2.1
def hI (h : am_H) : Nat → Nat → Int32 := h.2.2.1
def hJ (h : am_H) : Nat → Nat → Int64 := h.2.2.2.1
def hR (h : am_H) : Nat → Nat → Nat := h.2.2.2.2.1
def hZ (h : am_H) : Nat := h.2.2.2.2.2.1
def hS (h : am_H) : Nat := h.2.2.2.2.2.2
def sI (h : am_H) (a k : Nat) (v : Int32) : am_H := (hK h, hN h, va_up (hI h) a (va_up (hI h a) k v), hJ h, hR h, hZ h, hS h)
def sJ (h : am_H) (a k : Nat) (v : Int64) : am_H := (hK h, hN h, hI h, va_up (hJ h) a (va_up (hJ h a) k v), hR h, hZ h, hS h)
def sR (h : am_H) (a k : Nat) (v : Nat) : am_H := (hK h, hN h, hI h, hJ h, va_up (hR h) a (va_up (hR h a) k v), hZ h, hS h)
/-- a new object of class ci with n fields, a new array of kind k and length n -/
def nO (h : am_H) (ci n : Nat) : am_H := (va_up (hK h) (hZ h) ci, hN h, va_up (hI h) (hZ h) (fun _ => 0), va_up (hJ h) (hZ h) (fun _ => 0), va_up (hR h) (hZ h) (fun _ => 0), hZ h + 1, hS h + n)
def nA (h : am_H) (k n : Nat) : am_H := (va_up (hK h) (hZ h) k, va_up (hN h) (hZ h) n, va_up (hI h) (hZ h) (fun _ => 0), va_up (hJ h) (hZ h) (fun _ => 0), va_up (hR h) (hZ h) (fun _ => 0), hZ h + 1, hS h + n)
/-- a reference by its number -/
def am_o (r : Nat) : Value := if r = 0 then .null else .ref r
theorem am_o_ref {r : Nat} (h : r ≠ 0) : am_o r = .ref r := if_neg h
def am_val (h : am_H) (a k t : Nat) : Value := if t = 0 then .int (hI h a k) else if t = 1 then .long (hJ h a k) else am_o (hR h a k)
def am_tc : FieldType → Nat
  | .long => 1
  | .object _ => 2
  | .array _ => 2
  | _ => 0
def am_tyf (ci : Nat) : Nat → FieldType := if ci = 0 then tyX0 else if ci = 1 then tyX1 else if ci = 2 then tyX2 else if ci = 3 then tyX3 else if ci = 4 then tyX4 else if ci = 5 then tyX5 else if ci = 6 then tyX6 else if ci = 7 then tyX7 else if ci = 8 then tyX8 else if ci = 9 then tyX9 else tyX10
def am_ty (ci k : Nat) : Nat := am_tc (am_tyf ci k)
def am_n (ci : Nat) : Nat := if ci = 0 then 6 else if ci = 1 then 7 else if ci = 2 then 6 else if ci = 3 then 18 else if ci = 4 then 10 else if ci = 5 then 8 else if ci = 6 then 15 else if ci = 7 then 5 else if ci = 8 then 5 else if ci = 9 then 9 else 55
def am_et (k : Nat) : Nat := if k = 13 then 1 else if k = 15 then 2 else 0
def am_aty (k : Nat) : FieldType := if k = 11 then .char else if k = 12 then .int else if k = 13 then .long else if k = 14 then .boolean else .object "EvenFerry$State"
/-- the constants of a run: classes and slots, array classes by their kinds, the first own address, the heap at the start -/
abbrev am_W : Type := va_G × (Nat → ClassId) × Nat × Heap
def am_at (w : am_W) (h : am_H) (H : Heap) (a : Nat) : Prop :=
  if hK h a < 11 then t_OB a (w.1.1 (hK h a)) (am_n (hK h a)) (w.1.2 (hK h a)) H (fun k => am_val h a k (am_ty (hK h a) k))
  else H[a]? = some (arrV (w.2.1 (hK h a)) (hN h a) (fun j => am_val h a j (am_et (hK h a))))
def am_R (w : am_W) (h : am_H) (H : Heap) : Prop := H.size = hZ h ∧ w.2.2.2.size = w.2.2.1 ∧ 0 < w.2.2.1 ∧ w.2.2.1 ≤ hZ h ∧ (∀ a : Nat, a < w.2.2.1 → H[a]? = w.2.2.2[a]?) ∧ ∀ a, hK h a < 16 → w.2.2.1 ≤ a ∧ am_at w h H a
theorem am_at.lt {w : am_W} {h : am_H} {H : Heap} {a : Nat} (q : am_at w h H a) : a < H.size := by
  unfold am_at at q
  split at q
  · obtain ⟨cell, q1, -⟩ := q
    exact (Array.getElem?_eq_some_iff.mp q1).1
  · exact (Array.getElem?_eq_some_iff.mp q).1
theorem am_at.kept {w : am_W} {h h1 : am_H} {H H1 : Heap} {a : Nat} (q : am_at w h H a) (e : H1[a]? = H[a]?) (k : hK h1 a = hK h a) (n : hN h1 a = hN h a) (v : ∀ j t, am_val h1 a j t = am_val h a j t) : am_at w h1 H1 a := by
  unfold am_at at q ⊢
  rw [k, n]
  split at q
  · rename_i hc
    rw [if_pos hc]
    exact (q.kept e).to (fun j _ => (v j _).symm)
  · rename_i hc
    rw [if_neg hc, e, q]
    congr 2
    funext j
    exact (v j _).symm
/-- a value put at a place -/
def am_set (h : am_H) (a k : Nat) (v : Value) : am_H := match v with
  | .int x => sI h a k x
  | .long x => sJ h a k x
  | .ref r => sR h a k r
  | .null => sR h a k 0
  | _ => h
/-- a value of a type code -/
def am_is (v : Value) (t : Nat) : Prop := match v with
  | .int _ => t = 0
  | .long _ => t = 1
  | .ref r => t = 2 ∧ r ≠ 0
  | .null => t = 2
  | _ => False
theorem am_set_K (h : am_H) (a k : Nat) (v : Value) : hK (am_set h a k v) = hK h := by cases v <;> rfl
theorem am_set_N (h : am_H) (a k : Nat) (v : Value) : hN (am_set h a k v) = hN h := by cases v <;> rfl
theorem am_set_Z (h : am_H) (a k : Nat) (v : Value) : hZ (am_set h a k v) = hZ h := by cases v <;> rfl
theorem am_set_S (h : am_H) (a k : Nat) (v : Value) : hS (am_set h a k v) = hS h := by cases v <;> rfl
theorem am_u2 {α : Type} (f : Nat → Nat → α) (a k : Nat) (v : α) (b j : Nat) (h : b ≠ a ∨ j ≠ k) : va_up f a (va_up (f a) k v) b j = f b j := by
  by_cases hb : b = a
  · subst hb
    rw [va_up_self, va_up_ne _ _ (h.resolve_left (fun q => q rfl))]
  · rw [va_up_ne _ _ hb]
theorem am_set_ne {h : am_H} {a k : Nat} {v : Value} {b j : Nat} (t : Nat) (q : b ≠ a ∨ j ≠ k) : am_val (am_set h a k v) b j t = am_val h b j t := by
  cases v <;> first | rfl | (simp only [am_val, am_set, sI, sJ, sR, hI, hJ, hR]; rw [am_u2 _ _ _ _ _ _ q])
theorem am_set_eq {h : am_H} {a k : Nat} {v : Value} {t : Nat} (q : am_is v t) : am_val (am_set h a k v) a k t = v := by
  cases v with
  | int x => cases q; simp [am_val, am_set, sI, hI, va_up_self]
  | long x => cases q; simp [am_val, am_set, sJ, hJ, va_up_self]
  | ref r => obtain ⟨rfl, hr⟩ := q; simp [am_val, am_set, sR, hR, va_up_self, am_o, hr]
  | null => cases q; simp [am_val, am_set, sR, hR, va_up_self, am_o]
  | _ => exact absurd q id
theorem am_R.put {w : am_W} {h h1 : am_H} {H H1 : Heap} {a : Nat} (q : am_R w h H) (hz : H1.size = H.size) (ho : ∀ b : Nat, b ≠ a → H1[b]? = H[b]?) (ha : hK h a < 16) (z1 : hZ h1 = hZ h) (k1 : hK h1 = hK h) (n1 : hN h1 = hN h) (v1 : ∀ b j t, b ≠ a → am_val h1 b j t = am_val h b j t) (h1a : am_at w h1 H1 a) : am_R w h1 H1 := by
  obtain ⟨q1, q2, q3, q4, q5, q6⟩ := q
  refine ⟨by rw [hz, q1, z1], q2, q3, by rw [z1]; exact q4, fun b hb => ?_, fun b hb => ?_⟩
  · have hne : b ≠ a := fun e => by have := (q6 a ha).1; omega
    rw [ho b hne, q5 b hb]
  · rw [k1] at hb
    by_cases e : b = a
    · subst e
      exact ⟨(q6 b hb).1, h1a⟩
    · exact ⟨(q6 b hb).1, (q6 b hb).2.kept (ho b e) (by rw [k1]) (by rw [n1]) (fun j t => v1 b j t e)⟩
end
