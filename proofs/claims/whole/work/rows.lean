section
-- ===== PART A: goes FIRST, ahead of the names: the tables' words, and 'selects' of the private methods out of them =====
/-- a private method of a class that the tables say can be made, by its rows of tables_1 -/
def lw_okq (q : MethodName × Nat) : Prop := (q.1.cls ≠ "java/lang/invoke/MethodHandle" ∧ q.1.cls ≠ "java/lang/invoke/VarHandle") ∧ Cond.instantiable q.1.cls q.2 ∈ tables_1 ∧ Cond.privateMethod q.1 ∈ tables_1 ∧ Cond.instanceMethod q.1 ∈ tables_1
theorem lw_p0 : lw_okq (⟨"EvenFerry$Tape", "signAt", "(I)C"⟩, 5) := ⟨⟨by decide +kernel, by decide +kernel⟩, List.mem_of_getElem? (i := 164) (by decide +kernel), List.mem_of_getElem? (i := 477) (by decide +kernel), List.mem_of_getElem? (i := 478) (by decide +kernel)⟩
theorem lw_p1 : lw_okq (⟨"EvenFerry$Tape", "endOfWord", "(I)I"⟩, 5) := ⟨⟨by decide +kernel, by decide +kernel⟩, List.mem_of_getElem? (i := 164) (by decide +kernel), List.mem_of_getElem? (i := 484) (by decide +kernel), List.mem_of_getElem? (i := 485) (by decide +kernel)⟩
theorem lw_p2 : lw_okq (⟨"EvenFerry$Tape", "wordKind", "(II)I"⟩, 5) := ⟨⟨by decide +kernel, by decide +kernel⟩, List.mem_of_getElem? (i := 164) (by decide +kernel), List.mem_of_getElem? (i := 488) (by decide +kernel), List.mem_of_getElem? (i := 489) (by decide +kernel)⟩
theorem lw_p3 : lw_okq (⟨"EvenFerry$Tape", "isWord", "(III)Z"⟩, 5) := ⟨⟨by decide +kernel, by decide +kernel⟩, List.mem_of_getElem? (i := 164) (by decide +kernel), List.mem_of_getElem? (i := 503) (by decide +kernel), List.mem_of_getElem? (i := 504) (by decide +kernel)⟩
theorem lw_p4 : lw_okq (⟨"EvenFerry$Tape", "add", "(II)V"⟩, 5) := ⟨⟨by decide +kernel, by decide +kernel⟩, List.mem_of_getElem? (i := 164) (by decide +kernel), List.mem_of_getElem? (i := 545) (by decide +kernel), List.mem_of_getElem? (i := 546) (by decide +kernel)⟩
theorem lw_p5 : lw_okq (⟨"EvenFerry$Tape", "endOfNumber", "(I)I"⟩, 5) := ⟨⟨by decide +kernel, by decide +kernel⟩, List.mem_of_getElem? (i := 164) (by decide +kernel), List.mem_of_getElem? (i := 555) (by decide +kernel), List.mem_of_getElem? (i := 556) (by decide +kernel)⟩
theorem lw_p6 : lw_okq (⟨"EvenFerry$Parser", "kind", "()I"⟩, 8) := ⟨⟨by decide +kernel, by decide +kernel⟩, List.mem_of_getElem? (i := 191) (by decide +kernel), List.mem_of_getElem? (i := 622) (by decide +kernel), List.mem_of_getElem? (i := 623) (by decide +kernel)⟩
theorem lw_p7 : lw_okq (⟨"EvenFerry$Parser", "line", "()V"⟩, 8) := ⟨⟨by decide +kernel, by decide +kernel⟩, List.mem_of_getElem? (i := 191) (by decide +kernel), List.mem_of_getElem? (i := 626) (by decide +kernel), List.mem_of_getElem? (i := 627) (by decide +kernel)⟩
theorem lw_p8 : lw_okq (⟨"EvenFerry$Parser", "lineToldOnce", "(I)V"⟩, 8) := ⟨⟨by decide +kernel, by decide +kernel⟩, List.mem_of_getElem? (i := 191) (by decide +kernel), List.mem_of_getElem? (i := 630) (by decide +kernel), List.mem_of_getElem? (i := 631) (by decide +kernel)⟩
theorem lw_p9 : lw_okq (⟨"EvenFerry$Parser", "wrong", "(I)V"⟩, 8) := ⟨⟨by decide +kernel, by decide +kernel⟩, List.mem_of_getElem? (i := 191) (by decide +kernel), List.mem_of_getElem? (i := 634) (by decide +kernel), List.mem_of_getElem? (i := 635) (by decide +kernel)⟩
theorem lw_p10 : lw_okq (⟨"EvenFerry$Parser", "step", "()V"⟩, 8) := ⟨⟨by decide +kernel, by decide +kernel⟩, List.mem_of_getElem? (i := 191) (by decide +kernel), List.mem_of_getElem? (i := 638) (by decide +kernel), List.mem_of_getElem? (i := 639) (by decide +kernel)⟩
theorem lw_p11 : lw_okq (⟨"EvenFerry$Parser", "number", "(II)I"⟩, 8) := ⟨⟨by decide +kernel, by decide +kernel⟩, List.mem_of_getElem? (i := 191) (by decide +kernel), List.mem_of_getElem? (i := 642) (by decide +kernel), List.mem_of_getElem? (i := 643) (by decide +kernel)⟩
theorem lw_p12 : lw_okq (⟨"EvenFerry$Parser", "expect", "(I)V"⟩, 8) := ⟨⟨by decide +kernel, by decide +kernel⟩, List.mem_of_getElem? (i := 191) (by decide +kernel), List.mem_of_getElem? (i := 653) (by decide +kernel), List.mem_of_getElem? (i := 654) (by decide +kernel)⟩
theorem lw_p13 : lw_okq (⟨"EvenFerry$Parser", "lawLine", "()V"⟩, 8) := ⟨⟨by decide +kernel, by decide +kernel⟩, List.mem_of_getElem? (i := 191) (by decide +kernel), List.mem_of_getElem? (i := 657) (by decide +kernel), List.mem_of_getElem? (i := 658) (by decide +kernel)⟩
theorem lw_p14 : lw_okq (⟨"EvenFerry$Parser", "chain", "(II)V"⟩, 8) := ⟨⟨by decide +kernel, by decide +kernel⟩, List.mem_of_getElem? (i := 191) (by decide +kernel), List.mem_of_getElem? (i := 661) (by decide +kernel), List.mem_of_getElem? (i := 662) (by decide +kernel)⟩
theorem lw_p15 : lw_okq (⟨"EvenFerry$Parser", "part", "(I)V"⟩, 8) := ⟨⟨by decide +kernel, by decide +kernel⟩, List.mem_of_getElem? (i := 191) (by decide +kernel), List.mem_of_getElem? (i := 665) (by decide +kernel), List.mem_of_getElem? (i := 666) (by decide +kernel)⟩
def lw_privs_1 : List (MethodName × Nat) := [(⟨"EvenFerry$Tape", "signAt", "(I)C"⟩, 5), (⟨"EvenFerry$Tape", "endOfWord", "(I)I"⟩, 5), (⟨"EvenFerry$Tape", "wordKind", "(II)I"⟩, 5), (⟨"EvenFerry$Tape", "isWord", "(III)Z"⟩, 5), (⟨"EvenFerry$Tape", "add", "(II)V"⟩, 5), (⟨"EvenFerry$Tape", "endOfNumber", "(I)I"⟩, 5), (⟨"EvenFerry$Parser", "kind", "()I"⟩, 8), (⟨"EvenFerry$Parser", "line", "()V"⟩, 8), (⟨"EvenFerry$Parser", "lineToldOnce", "(I)V"⟩, 8), (⟨"EvenFerry$Parser", "wrong", "(I)V"⟩, 8), (⟨"EvenFerry$Parser", "step", "()V"⟩, 8), (⟨"EvenFerry$Parser", "number", "(II)I"⟩, 8), (⟨"EvenFerry$Parser", "expect", "(I)V"⟩, 8), (⟨"EvenFerry$Parser", "lawLine", "()V"⟩, 8), (⟨"EvenFerry$Parser", "chain", "(II)V"⟩, 8), (⟨"EvenFerry$Parser", "part", "(I)V"⟩, 8)]
theorem lw_r1 : ∀ q ∈ lw_privs_1, lw_okq q := List.forall_mem_cons.mpr ⟨lw_p0, List.forall_mem_cons.mpr ⟨lw_p1, List.forall_mem_cons.mpr ⟨lw_p2, List.forall_mem_cons.mpr ⟨lw_p3, List.forall_mem_cons.mpr ⟨lw_p4, List.forall_mem_cons.mpr ⟨lw_p5, List.forall_mem_cons.mpr ⟨lw_p6, List.forall_mem_cons.mpr ⟨lw_p7, List.forall_mem_cons.mpr ⟨lw_p8, List.forall_mem_cons.mpr ⟨lw_p9, List.forall_mem_cons.mpr ⟨lw_p10, List.forall_mem_cons.mpr ⟨lw_p11, List.forall_mem_cons.mpr ⟨lw_p12, List.forall_mem_cons.mpr ⟨lw_p13, List.forall_mem_cons.mpr ⟨lw_p14, List.forall_mem_cons.mpr ⟨lw_p15, fun _ h => absurd h List.not_mem_nil⟩⟩⟩⟩⟩⟩⟩⟩⟩⟩⟩⟩⟩⟩⟩⟩
theorem lw_p16 : lw_okq (⟨"EvenFerry$Parser", "write", "(I)V"⟩, 8) := ⟨⟨by decide +kernel, by decide +kernel⟩, List.mem_of_getElem? (i := 191) (by decide +kernel), List.mem_of_getElem? (i := 669) (by decide +kernel), List.mem_of_getElem? (i := 670) (by decide +kernel)⟩
theorem lw_p17 : lw_okq (⟨"EvenFerry$Parser", "personLine", "()V"⟩, 8) := ⟨⟨by decide +kernel, by decide +kernel⟩, List.mem_of_getElem? (i := 191) (by decide +kernel), List.mem_of_getElem? (i := 682) (by decide +kernel), List.mem_of_getElem? (i := 683) (by decide +kernel)⟩
theorem lw_p18 : lw_okq (⟨"EvenFerry$Parser", "name", "()V"⟩, 8) := ⟨⟨by decide +kernel, by decide +kernel⟩, List.mem_of_getElem? (i := 191) (by decide +kernel), List.mem_of_getElem? (i := 686) (by decide +kernel), List.mem_of_getElem? (i := 687) (by decide +kernel)⟩
theorem lw_p19 : lw_okq (⟨"EvenFerry$Parser", "sideWord", "()I"⟩, 8) := ⟨⟨by decide +kernel, by decide +kernel⟩, List.mem_of_getElem? (i := 191) (by decide +kernel), List.mem_of_getElem? (i := 695) (by decide +kernel), List.mem_of_getElem? (i := 696) (by decide +kernel)⟩
theorem lw_p20 : lw_okq (⟨"EvenFerry$Parser", "kindWord", "()I"⟩, 8) := ⟨⟨by decide +kernel, by decide +kernel⟩, List.mem_of_getElem? (i := 191) (by decide +kernel), List.mem_of_getElem? (i := 699) (by decide +kernel), List.mem_of_getElem? (i := 700) (by decide +kernel)⟩
theorem lw_p21 : lw_okq (⟨"EvenFerry", "forget", "()V"⟩, 9) := ⟨⟨by decide +kernel, by decide +kernel⟩, List.mem_of_getElem? (i := 25) (by decide +kernel), List.mem_of_getElem? (i := 736) (by decide +kernel), List.mem_of_getElem? (i := 737) (by decide +kernel)⟩
theorem lw_p22 : lw_okq (⟨"EvenFerry", "isPerson", "(I)Z"⟩, 9) := ⟨⟨by decide +kernel, by decide +kernel⟩, List.mem_of_getElem? (i := 25) (by decide +kernel), List.mem_of_getElem? (i := 745) (by decide +kernel), List.mem_of_getElem? (i := 746) (by decide +kernel)⟩
theorem lw_p23 : lw_okq (⟨"EvenFerry", "knowDay", "()V"⟩, 9) := ⟨⟨by decide +kernel, by decide +kernel⟩, List.mem_of_getElem? (i := 25) (by decide +kernel), List.mem_of_getElem? (i := 758) (by decide +kernel), List.mem_of_getElem? (i := 759) (by decide +kernel)⟩
theorem lw_p24 : lw_okq (⟨"EvenFerry$Day", "bankOf", "(I)LEvenFerry$Bank;"⟩, 18) := ⟨⟨by decide +kernel, by decide +kernel⟩, List.mem_of_getElem? (i := 255) (by decide +kernel), List.mem_of_getElem? (i := 794) (by decide +kernel), List.mem_of_getElem? (i := 795) (by decide +kernel)⟩
theorem lw_p25 : lw_okq (⟨"EvenFerry$Day", "freeBoat", "(I)I"⟩, 18) := ⟨⟨by decide +kernel, by decide +kernel⟩, List.mem_of_getElem? (i := 255) (by decide +kernel), List.mem_of_getElem? (i := 810) (by decide +kernel), List.mem_of_getElem? (i := 811) (by decide +kernel)⟩
theorem lw_p26 : lw_okq (⟨"EvenFerry$Day", "gatherFacts", "(I)V"⟩, 18) := ⟨⟨by decide +kernel, by decide +kernel⟩, List.mem_of_getElem? (i := 255) (by decide +kernel), List.mem_of_getElem? (i := 814) (by decide +kernel), List.mem_of_getElem? (i := 815) (by decide +kernel)⟩
theorem lw_p27 : lw_okq (⟨"EvenFerry$Day", "earliest", "(LEvenFerry$Bank;I)I"⟩, 18) := ⟨⟨by decide +kernel, by decide +kernel⟩, List.mem_of_getElem? (i := 255) (by decide +kernel), List.mem_of_getElem? (i := 826) (by decide +kernel), List.mem_of_getElem? (i := 827) (by decide +kernel)⟩
theorem lw_p28 : lw_okq (⟨"EvenFerry$Day", "board", "(LEvenFerry$Bank;I)I"⟩, 18) := ⟨⟨by decide +kernel, by decide +kernel⟩, List.mem_of_getElem? (i := 255) (by decide +kernel), List.mem_of_getElem? (i := 845) (by decide +kernel), List.mem_of_getElem? (i := 846) (by decide +kernel)⟩
theorem lw_p29 : lw_okq (⟨"EvenFerry$Day", "firstHolding", "(II)I"⟩, 18) := ⟨⟨by decide +kernel, by decide +kernel⟩, List.mem_of_getElem? (i := 255) (by decide +kernel), List.mem_of_getElem? (i := 858) (by decide +kernel), List.mem_of_getElem? (i := 859) (by decide +kernel)⟩
theorem lw_p30 : lw_okq (⟨"EvenFerry", "nightBits", "()I"⟩, 9) := ⟨⟨by decide +kernel, by decide +kernel⟩, List.mem_of_getElem? (i := 25) (by decide +kernel), List.mem_of_getElem? (i := 891) (by decide +kernel), List.mem_of_getElem? (i := 892) (by decide +kernel)⟩
theorem lw_p31 : lw_okq (⟨"EvenFerry", "heads", "(II)I"⟩, 9) := ⟨⟨by decide +kernel, by decide +kernel⟩, List.mem_of_getElem? (i := 25) (by decide +kernel), List.mem_of_getElem? (i := 902) (by decide +kernel), List.mem_of_getElem? (i := 903) (by decide +kernel)⟩
def lw_privs_2 : List (MethodName × Nat) := [(⟨"EvenFerry$Parser", "write", "(I)V"⟩, 8), (⟨"EvenFerry$Parser", "personLine", "()V"⟩, 8), (⟨"EvenFerry$Parser", "name", "()V"⟩, 8), (⟨"EvenFerry$Parser", "sideWord", "()I"⟩, 8), (⟨"EvenFerry$Parser", "kindWord", "()I"⟩, 8), (⟨"EvenFerry", "forget", "()V"⟩, 9), (⟨"EvenFerry", "isPerson", "(I)Z"⟩, 9), (⟨"EvenFerry", "knowDay", "()V"⟩, 9), (⟨"EvenFerry$Day", "bankOf", "(I)LEvenFerry$Bank;"⟩, 18), (⟨"EvenFerry$Day", "freeBoat", "(I)I"⟩, 18), (⟨"EvenFerry$Day", "gatherFacts", "(I)V"⟩, 18), (⟨"EvenFerry$Day", "earliest", "(LEvenFerry$Bank;I)I"⟩, 18), (⟨"EvenFerry$Day", "board", "(LEvenFerry$Bank;I)I"⟩, 18), (⟨"EvenFerry$Day", "firstHolding", "(II)I"⟩, 18), (⟨"EvenFerry", "nightBits", "()I"⟩, 9), (⟨"EvenFerry", "heads", "(II)I"⟩, 9)]
theorem lw_r2 : ∀ q ∈ lw_privs_2, lw_okq q := List.forall_mem_cons.mpr ⟨lw_p16, List.forall_mem_cons.mpr ⟨lw_p17, List.forall_mem_cons.mpr ⟨lw_p18, List.forall_mem_cons.mpr ⟨lw_p19, List.forall_mem_cons.mpr ⟨lw_p20, List.forall_mem_cons.mpr ⟨lw_p21, List.forall_mem_cons.mpr ⟨lw_p22, List.forall_mem_cons.mpr ⟨lw_p23, List.forall_mem_cons.mpr ⟨lw_p24, List.forall_mem_cons.mpr ⟨lw_p25, List.forall_mem_cons.mpr ⟨lw_p26, List.forall_mem_cons.mpr ⟨lw_p27, List.forall_mem_cons.mpr ⟨lw_p28, List.forall_mem_cons.mpr ⟨lw_p29, List.forall_mem_cons.mpr ⟨lw_p30, List.forall_mem_cons.mpr ⟨lw_p31, fun _ h => absurd h List.not_mem_nil⟩⟩⟩⟩⟩⟩⟩⟩⟩⟩⟩⟩⟩⟩⟩⟩
theorem lw_p32 : lw_okq (⟨"EvenFerry", "waitsAt", "(III)Z"⟩, 9) := ⟨⟨by decide +kernel, by decide +kernel⟩, List.mem_of_getElem? (i := 25) (by decide +kernel), List.mem_of_getElem? (i := 906) (by decide +kernel), List.mem_of_getElem? (i := 907) (by decide +kernel)⟩
theorem lw_p33 : lw_okq (⟨"EvenFerry", "together", "([III)I"⟩, 9) := ⟨⟨by decide +kernel, by decide +kernel⟩, List.mem_of_getElem? (i := 25) (by decide +kernel), List.mem_of_getElem? (i := 914) (by decide +kernel), List.mem_of_getElem? (i := 915) (by decide +kernel)⟩
theorem lw_p34 : lw_okq (⟨"EvenFerry", "beginTrial", "(I)V"⟩, 9) := ⟨⟨by decide +kernel, by decide +kernel⟩, List.mem_of_getElem? (i := 25) (by decide +kernel), List.mem_of_getElem? (i := 922) (by decide +kernel), List.mem_of_getElem? (i := 923) (by decide +kernel)⟩
theorem lw_p35 : lw_okq (⟨"EvenFerry", "mayTurn", "(II)Z"⟩, 9) := ⟨⟨by decide +kernel, by decide +kernel⟩, List.mem_of_getElem? (i := 25) (by decide +kernel), List.mem_of_getElem? (i := 936) (by decide +kernel), List.mem_of_getElem? (i := 937) (by decide +kernel)⟩
theorem lw_p36 : lw_okq (⟨"EvenFerry", "gainByTurning", "(II)I"⟩, 9) := ⟨⟨by decide +kernel, by decide +kernel⟩, List.mem_of_getElem? (i := 25) (by decide +kernel), List.mem_of_getElem? (i := 940) (by decide +kernel), List.mem_of_getElem? (i := 941) (by decide +kernel)⟩
theorem lw_p37 : lw_okq (⟨"EvenFerry$Choices", "findCheapest", "(I)V"⟩, 7) := ⟨⟨by decide +kernel, by decide +kernel⟩, List.mem_of_getElem? (i := 354) (by decide +kernel), List.mem_of_getElem? (i := 967) (by decide +kernel), List.mem_of_getElem? (i := 968) (by decide +kernel)⟩
theorem lw_p38 : lw_okq (⟨"EvenFerry$Choices", "findResting", "(II)V"⟩, 7) := ⟨⟨by decide +kernel, by decide +kernel⟩, List.mem_of_getElem? (i := 354) (by decide +kernel), List.mem_of_getElem? (i := 971) (by decide +kernel), List.mem_of_getElem? (i := 972) (by decide +kernel)⟩
theorem lw_p39 : lw_okq (⟨"EvenFerry$Choices", "isAtRest", "(II)Z"⟩, 7) := ⟨⟨by decide +kernel, by decide +kernel⟩, List.mem_of_getElem? (i := 354) (by decide +kernel), List.mem_of_getElem? (i := 975) (by decide +kernel), List.mem_of_getElem? (i := 976) (by decide +kernel)⟩
theorem lw_p40 : lw_okq (⟨"EvenFerry", "levels", "(IZ)J"⟩, 9) := ⟨⟨by decide +kernel, by decide +kernel⟩, List.mem_of_getElem? (i := 25) (by decide +kernel), List.mem_of_getElem? (i := 1024) (by decide +kernel), List.mem_of_getElem? (i := 1025) (by decide +kernel)⟩
theorem lw_p41 : lw_okq (⟨"EvenFerry$Lots", "drawCrowd", "(LEvenFerry$River;)V"⟩, 10) := ⟨⟨by decide +kernel, by decide +kernel⟩, List.mem_of_getElem? (i := 388) (by decide +kernel), List.mem_of_getElem? (i := 1058) (by decide +kernel), List.mem_of_getElem? (i := 1059) (by decide +kernel)⟩
theorem lw_p42 : lw_okq (⟨"EvenFerry$Lots", "draw", "(I)I"⟩, 10) := ⟨⟨by decide +kernel, by decide +kernel⟩, List.mem_of_getElem? (i := 388) (by decide +kernel), List.mem_of_getElem? (i := 1062) (by decide +kernel), List.mem_of_getElem? (i := 1063) (by decide +kernel)⟩
theorem lw_p43 : lw_okq (⟨"EvenFerry$Lots", "addUp", "(LEvenFerry$Day;)V"⟩, 10) := ⟨⟨by decide +kernel, by decide +kernel⟩, List.mem_of_getElem? (i := 388) (by decide +kernel), List.mem_of_getElem? (i := 1073) (by decide +kernel), List.mem_of_getElem? (i := 1074) (by decide +kernel)⟩
theorem lw_p44 : lw_okq (⟨"java/lang/Throwable", "fillInStackTrace", "(I)Ljava/lang/Throwable;"⟩, 6) := ⟨⟨by decide +kernel, by decide +kernel⟩, List.mem_of_getElem? (i := 1140) (by decide +kernel), List.mem_of_getElem? (i := 1138) (by decide +kernel), List.mem_of_getElem? (i := 1139) (by decide +kernel)⟩
theorem lw_p45 : lw_okq (⟨"EvenFerryModel", "starts0", "(I)V"⟩, 55) := ⟨⟨by decide +kernel, by decide +kernel⟩, List.mem_of_getElem? (i := 1169) (by decide +kernel), List.mem_of_getElem? (i := 1175) (by decide +kernel), List.mem_of_getElem? (i := 1176) (by decide +kernel)⟩
theorem lw_p46 : lw_okq (⟨"EvenFerryModel", "readsAll", "()Z"⟩, 55) := ⟨⟨by decide +kernel, by decide +kernel⟩, List.mem_of_getElem? (i := 1169) (by decide +kernel), List.mem_of_getElem? (i := 1359) (by decide +kernel), List.mem_of_getElem? (i := 1360) (by decide +kernel)⟩
theorem lw_p47 : lw_okq (⟨"EvenFerryModel", "nextToken", "()V"⟩, 55) := ⟨⟨by decide +kernel, by decide +kernel⟩, List.mem_of_getElem? (i := 1169) (by decide +kernel), List.mem_of_getElem? (i := 1363) (by decide +kernel), List.mem_of_getElem? (i := 1364) (by decide +kernel)⟩
def lw_privs_3 : List (MethodName × Nat) := [(⟨"EvenFerry", "waitsAt", "(III)Z"⟩, 9), (⟨"EvenFerry", "together", "([III)I"⟩, 9), (⟨"EvenFerry", "beginTrial", "(I)V"⟩, 9), (⟨"EvenFerry", "mayTurn", "(II)Z"⟩, 9), (⟨"EvenFerry", "gainByTurning", "(II)I"⟩, 9), (⟨"EvenFerry$Choices", "findCheapest", "(I)V"⟩, 7), (⟨"EvenFerry$Choices", "findResting", "(II)V"⟩, 7), (⟨"EvenFerry$Choices", "isAtRest", "(II)Z"⟩, 7), (⟨"EvenFerry", "levels", "(IZ)J"⟩, 9), (⟨"EvenFerry$Lots", "drawCrowd", "(LEvenFerry$River;)V"⟩, 10), (⟨"EvenFerry$Lots", "draw", "(I)I"⟩, 10), (⟨"EvenFerry$Lots", "addUp", "(LEvenFerry$Day;)V"⟩, 10), (⟨"java/lang/Throwable", "fillInStackTrace", "(I)Ljava/lang/Throwable;"⟩, 6), (⟨"EvenFerryModel", "starts0", "(I)V"⟩, 55), (⟨"EvenFerryModel", "readsAll", "()Z"⟩, 55), (⟨"EvenFerryModel", "nextToken", "()V"⟩, 55)]
theorem lw_r3 : ∀ q ∈ lw_privs_3, lw_okq q := List.forall_mem_cons.mpr ⟨lw_p32, List.forall_mem_cons.mpr ⟨lw_p33, List.forall_mem_cons.mpr ⟨lw_p34, List.forall_mem_cons.mpr ⟨lw_p35, List.forall_mem_cons.mpr ⟨lw_p36, List.forall_mem_cons.mpr ⟨lw_p37, List.forall_mem_cons.mpr ⟨lw_p38, List.forall_mem_cons.mpr ⟨lw_p39, List.forall_mem_cons.mpr ⟨lw_p40, List.forall_mem_cons.mpr ⟨lw_p41, List.forall_mem_cons.mpr ⟨lw_p42, List.forall_mem_cons.mpr ⟨lw_p43, List.forall_mem_cons.mpr ⟨lw_p44, List.forall_mem_cons.mpr ⟨lw_p45, List.forall_mem_cons.mpr ⟨lw_p46, List.forall_mem_cons.mpr ⟨lw_p47, fun _ h => absurd h List.not_mem_nil⟩⟩⟩⟩⟩⟩⟩⟩⟩⟩⟩⟩⟩⟩⟩⟩
theorem lw_p48 : lw_okq (⟨"EvenFerryModel", "signAt", "(I)I"⟩, 55) := ⟨⟨by decide +kernel, by decide +kernel⟩, List.mem_of_getElem? (i := 1169) (by decide +kernel), List.mem_of_getElem? (i := 1367) (by decide +kernel), List.mem_of_getElem? (i := 1368) (by decide +kernel)⟩
theorem lw_p49 : lw_okq (⟨"EvenFerryModel", "isWord", "(J)Z"⟩, 55) := ⟨⟨by decide +kernel, by decide +kernel⟩, List.mem_of_getElem? (i := 1169) (by decide +kernel), List.mem_of_getElem? (i := 1374) (by decide +kernel), List.mem_of_getElem? (i := 1375) (by decide +kernel)⟩
theorem lw_p50 : lw_okq (⟨"EvenFerryModel", "readsOne", "(III)Z"⟩, 55) := ⟨⟨by decide +kernel, by decide +kernel⟩, List.mem_of_getElem? (i := 1169) (by decide +kernel), List.mem_of_getElem? (i := 1378) (by decide +kernel), List.mem_of_getElem? (i := 1379) (by decide +kernel)⟩
theorem lw_p51 : lw_okq (⟨"EvenFerryModel", "fails", "(I)Z"⟩, 55) := ⟨⟨by decide +kernel, by decide +kernel⟩, List.mem_of_getElem? (i := 1169) (by decide +kernel), List.mem_of_getElem? (i := 1382) (by decide +kernel), List.mem_of_getElem? (i := 1383) (by decide +kernel)⟩
theorem lw_p52 : lw_okq (⟨"EvenFerryModel", "needsNumber", "(II)Z"⟩, 55) := ⟨⟨by decide +kernel, by decide +kernel⟩, List.mem_of_getElem? (i := 1169) (by decide +kernel), List.mem_of_getElem? (i := 1386) (by decide +kernel), List.mem_of_getElem? (i := 1387) (by decide +kernel)⟩
theorem lw_p53 : lw_okq (⟨"EvenFerryModel", "ends", "()Z"⟩, 55) := ⟨⟨by decide +kernel, by decide +kernel⟩, List.mem_of_getElem? (i := 1169) (by decide +kernel), List.mem_of_getElem? (i := 1393) (by decide +kernel), List.mem_of_getElem? (i := 1394) (by decide +kernel)⟩
theorem lw_p54 : lw_okq (⟨"EvenFerryModel", "isSign", "(I)Z"⟩, 55) := ⟨⟨by decide +kernel, by decide +kernel⟩, List.mem_of_getElem? (i := 1169) (by decide +kernel), List.mem_of_getElem? (i := 1397) (by decide +kernel), List.mem_of_getElem? (i := 1398) (by decide +kernel)⟩
theorem lw_p55 : lw_okq (⟨"EvenFerryModel", "readsSide", "()Z"⟩, 55) := ⟨⟨by decide +kernel, by decide +kernel⟩, List.mem_of_getElem? (i := 1169) (by decide +kernel), List.mem_of_getElem? (i := 1404) (by decide +kernel), List.mem_of_getElem? (i := 1405) (by decide +kernel)⟩
theorem lw_p56 : lw_okq (⟨"EvenFerryModel", "needsWord", "(J)Z"⟩, 55) := ⟨⟨by decide +kernel, by decide +kernel⟩, List.mem_of_getElem? (i := 1169) (by decide +kernel), List.mem_of_getElem? (i := 1409) (by decide +kernel), List.mem_of_getElem? (i := 1410) (by decide +kernel)⟩
theorem lw_p57 : lw_okq (⟨"EvenFerryModel", "readsLaw", "()Z"⟩, 55) := ⟨⟨by decide +kernel, by decide +kernel⟩, List.mem_of_getElem? (i := 1169) (by decide +kernel), List.mem_of_getElem? (i := 1416) (by decide +kernel), List.mem_of_getElem? (i := 1417) (by decide +kernel)⟩
theorem lw_p58 : lw_okq (⟨"EvenFerryModel", "reads", "()Z"⟩, 55) := ⟨⟨by decide +kernel, by decide +kernel⟩, List.mem_of_getElem? (i := 1169) (by decide +kernel), List.mem_of_getElem? (i := 1420) (by decide +kernel), List.mem_of_getElem? (i := 1421) (by decide +kernel)⟩
theorem lw_p59 : lw_okq (⟨"EvenFerryModel", "fact", "()I"⟩, 55) := ⟨⟨by decide +kernel, by decide +kernel⟩, List.mem_of_getElem? (i := 1169) (by decide +kernel), List.mem_of_getElem? (i := 1424) (by decide +kernel), List.mem_of_getElem? (i := 1425) (by decide +kernel)⟩
theorem lw_p60 : lw_okq (⟨"EvenFerryModel", "puts", "(I)V"⟩, 55) := ⟨⟨by decide +kernel, by decide +kernel⟩, List.mem_of_getElem? (i := 1169) (by decide +kernel), List.mem_of_getElem? (i := 1435) (by decide +kernel), List.mem_of_getElem? (i := 1436) (by decide +kernel)⟩
theorem lw_p61 : lw_okq (⟨"EvenFerryModel", "readsPerson", "()Z"⟩, 55) := ⟨⟨by decide +kernel, by decide +kernel⟩, List.mem_of_getElem? (i := 1169) (by decide +kernel), List.mem_of_getElem? (i := 1442) (by decide +kernel), List.mem_of_getElem? (i := 1443) (by decide +kernel)⟩
theorem lw_p62 : lw_okq (⟨"EvenFerryModel", "isKept", "()Z"⟩, 55) := ⟨⟨by decide +kernel, by decide +kernel⟩, List.mem_of_getElem? (i := 1169) (by decide +kernel), List.mem_of_getElem? (i := 1446) (by decide +kernel), List.mem_of_getElem? (i := 1447) (by decide +kernel)⟩
theorem lw_p63 : lw_okq (⟨"EvenFerryModel", "kindAt", "()I"⟩, 55) := ⟨⟨by decide +kernel, by decide +kernel⟩, List.mem_of_getElem? (i := 1169) (by decide +kernel), List.mem_of_getElem? (i := 1459) (by decide +kernel), List.mem_of_getElem? (i := 1460) (by decide +kernel)⟩
def lw_privs_4 : List (MethodName × Nat) := [(⟨"EvenFerryModel", "signAt", "(I)I"⟩, 55), (⟨"EvenFerryModel", "isWord", "(J)Z"⟩, 55), (⟨"EvenFerryModel", "readsOne", "(III)Z"⟩, 55), (⟨"EvenFerryModel", "fails", "(I)Z"⟩, 55), (⟨"EvenFerryModel", "needsNumber", "(II)Z"⟩, 55), (⟨"EvenFerryModel", "ends", "()Z"⟩, 55), (⟨"EvenFerryModel", "isSign", "(I)Z"⟩, 55), (⟨"EvenFerryModel", "readsSide", "()Z"⟩, 55), (⟨"EvenFerryModel", "needsWord", "(J)Z"⟩, 55), (⟨"EvenFerryModel", "readsLaw", "()Z"⟩, 55), (⟨"EvenFerryModel", "reads", "()Z"⟩, 55), (⟨"EvenFerryModel", "fact", "()I"⟩, 55), (⟨"EvenFerryModel", "puts", "(I)V"⟩, 55), (⟨"EvenFerryModel", "readsPerson", "()Z"⟩, 55), (⟨"EvenFerryModel", "isKept", "()Z"⟩, 55), (⟨"EvenFerryModel", "kindAt", "()I"⟩, 55)]
theorem lw_r4 : ∀ q ∈ lw_privs_4, lw_okq q := List.forall_mem_cons.mpr ⟨lw_p48, List.forall_mem_cons.mpr ⟨lw_p49, List.forall_mem_cons.mpr ⟨lw_p50, List.forall_mem_cons.mpr ⟨lw_p51, List.forall_mem_cons.mpr ⟨lw_p52, List.forall_mem_cons.mpr ⟨lw_p53, List.forall_mem_cons.mpr ⟨lw_p54, List.forall_mem_cons.mpr ⟨lw_p55, List.forall_mem_cons.mpr ⟨lw_p56, List.forall_mem_cons.mpr ⟨lw_p57, List.forall_mem_cons.mpr ⟨lw_p58, List.forall_mem_cons.mpr ⟨lw_p59, List.forall_mem_cons.mpr ⟨lw_p60, List.forall_mem_cons.mpr ⟨lw_p61, List.forall_mem_cons.mpr ⟨lw_p62, List.forall_mem_cons.mpr ⟨lw_p63, fun _ h => absurd h List.not_mem_nil⟩⟩⟩⟩⟩⟩⟩⟩⟩⟩⟩⟩⟩⟩⟩⟩
theorem lw_p64 : lw_okq (⟨"EvenFerryModel", "choosers", "(I)I"⟩, 55) := ⟨⟨by decide +kernel, by decide +kernel⟩, List.mem_of_getElem? (i := 1169) (by decide +kernel), List.mem_of_getElem? (i := 1463) (by decide +kernel), List.mem_of_getElem? (i := 1464) (by decide +kernel)⟩
theorem lw_p65 : lw_okq (⟨"EvenFerryModel", "lays", "(II)V"⟩, 55) := ⟨⟨by decide +kernel, by decide +kernel⟩, List.mem_of_getElem? (i := 1169) (by decide +kernel), List.mem_of_getElem? (i := 1467) (by decide +kernel), List.mem_of_getElem? (i := 1468) (by decide +kernel)⟩
theorem lw_p66 : lw_okq (⟨"EvenFerryModel", "isPerson", "(I)Z"⟩, 55) := ⟨⟨by decide +kernel, by decide +kernel⟩, List.mem_of_getElem? (i := 1169) (by decide +kernel), List.mem_of_getElem? (i := 1478) (by decide +kernel), List.mem_of_getElem? (i := 1479) (by decide +kernel)⟩
theorem lw_p67 : lw_okq (⟨"EvenFerryModel", "day", "(I)V"⟩, 55) := ⟨⟨by decide +kernel, by decide +kernel⟩, List.mem_of_getElem? (i := 1169) (by decide +kernel), List.mem_of_getElem? (i := 1493) (by decide +kernel), List.mem_of_getElem? (i := 1494) (by decide +kernel)⟩
theorem lw_p68 : lw_okq (⟨"EvenFerryModel", "tellsAll", "(I)V"⟩, 55) := ⟨⟨by decide +kernel, by decide +kernel⟩, List.mem_of_getElem? (i := 1169) (by decide +kernel), List.mem_of_getElem? (i := 1497) (by decide +kernel), List.mem_of_getElem? (i := 1498) (by decide +kernel)⟩
theorem lw_p69 : lw_okq (⟨"EvenFerryModel", "dawns", "()V"⟩, 55) := ⟨⟨by decide +kernel, by decide +kernel⟩, List.mem_of_getElem? (i := 1169) (by decide +kernel), List.mem_of_getElem? (i := 1501) (by decide +kernel), List.mem_of_getElem? (i := 1502) (by decide +kernel)⟩
theorem lw_p70 : lw_okq (⟨"EvenFerryModel", "joins", "(IIIII)V"⟩, 55) := ⟨⟨by decide +kernel, by decide +kernel⟩, List.mem_of_getElem? (i := 1169) (by decide +kernel), List.mem_of_getElem? (i := 1506) (by decide +kernel), List.mem_of_getElem? (i := 1507) (by decide +kernel)⟩
theorem lw_p71 : lw_okq (⟨"EvenFerryModel", "goesOn", "(II)V"⟩, 55) := ⟨⟨by decide +kernel, by decide +kernel⟩, List.mem_of_getElem? (i := 1169) (by decide +kernel), List.mem_of_getElem? (i := 1510) (by decide +kernel), List.mem_of_getElem? (i := 1511) (by decide +kernel)⟩
theorem lw_p72 : lw_okq (⟨"EvenFerryModel", "wouldRing", "(I)Z"⟩, 55) := ⟨⟨by decide +kernel, by decide +kernel⟩, List.mem_of_getElem? (i := 1169) (by decide +kernel), List.mem_of_getElem? (i := 1514) (by decide +kernel), List.mem_of_getElem? (i := 1515) (by decide +kernel)⟩
theorem lw_p73 : lw_okq (⟨"EvenFerryModel", "isWaiting", "(II)Z"⟩, 55) := ⟨⟨by decide +kernel, by decide +kernel⟩, List.mem_of_getElem? (i := 1169) (by decide +kernel), List.mem_of_getElem? (i := 1518) (by decide +kernel), List.mem_of_getElem? (i := 1519) (by decide +kernel)⟩
theorem lw_p74 : lw_okq (⟨"EvenFerryModel", "worked", "(I)I"⟩, 55) := ⟨⟨by decide +kernel, by decide +kernel⟩, List.mem_of_getElem? (i := 1169) (by decide +kernel), List.mem_of_getElem? (i := 1522) (by decide +kernel), List.mem_of_getElem? (i := 1523) (by decide +kernel)⟩
theorem lw_p75 : lw_okq (⟨"EvenFerryModel", "opens", "(I)V"⟩, 55) := ⟨⟨by decide +kernel, by decide +kernel⟩, List.mem_of_getElem? (i := 1169) (by decide +kernel), List.mem_of_getElem? (i := 1526) (by decide +kernel), List.mem_of_getElem? (i := 1527) (by decide +kernel)⟩
theorem lw_p76 : lw_okq (⟨"EvenFerryModel", "sums", "(I)V"⟩, 55) := ⟨⟨by decide +kernel, by decide +kernel⟩, List.mem_of_getElem? (i := 1169) (by decide +kernel), List.mem_of_getElem? (i := 1530) (by decide +kernel), List.mem_of_getElem? (i := 1531) (by decide +kernel)⟩
theorem lw_p77 : lw_okq (⟨"EvenFerryModel", "tests", "(I)V"⟩, 55) := ⟨⟨by decide +kernel, by decide +kernel⟩, List.mem_of_getElem? (i := 1169) (by decide +kernel), List.mem_of_getElem? (i := 1534) (by decide +kernel), List.mem_of_getElem? (i := 1535) (by decide +kernel)⟩
theorem lw_p78 : lw_okq (⟨"EvenFerryModel", "ringsOnce", "(I)V"⟩, 55) := ⟨⟨by decide +kernel, by decide +kernel⟩, List.mem_of_getElem? (i := 1169) (by decide +kernel), List.mem_of_getElem? (i := 1538) (by decide +kernel), List.mem_of_getElem? (i := 1539) (by decide +kernel)⟩
theorem lw_p79 : lw_okq (⟨"EvenFerryModel", "leaves", "(II)I"⟩, 55) := ⟨⟨by decide +kernel, by decide +kernel⟩, List.mem_of_getElem? (i := 1169) (by decide +kernel), List.mem_of_getElem? (i := 1542) (by decide +kernel), List.mem_of_getElem? (i := 1543) (by decide +kernel)⟩
def lw_privs_5 : List (MethodName × Nat) := [(⟨"EvenFerryModel", "choosers", "(I)I"⟩, 55), (⟨"EvenFerryModel", "lays", "(II)V"⟩, 55), (⟨"EvenFerryModel", "isPerson", "(I)Z"⟩, 55), (⟨"EvenFerryModel", "day", "(I)V"⟩, 55), (⟨"EvenFerryModel", "tellsAll", "(I)V"⟩, 55), (⟨"EvenFerryModel", "dawns", "()V"⟩, 55), (⟨"EvenFerryModel", "joins", "(IIIII)V"⟩, 55), (⟨"EvenFerryModel", "goesOn", "(II)V"⟩, 55), (⟨"EvenFerryModel", "wouldRing", "(I)Z"⟩, 55), (⟨"EvenFerryModel", "isWaiting", "(II)Z"⟩, 55), (⟨"EvenFerryModel", "worked", "(I)I"⟩, 55), (⟨"EvenFerryModel", "opens", "(I)V"⟩, 55), (⟨"EvenFerryModel", "sums", "(I)V"⟩, 55), (⟨"EvenFerryModel", "tests", "(I)V"⟩, 55), (⟨"EvenFerryModel", "ringsOnce", "(I)V"⟩, 55), (⟨"EvenFerryModel", "leaves", "(II)I"⟩, 55)]
theorem lw_r5 : ∀ q ∈ lw_privs_5, lw_okq q := List.forall_mem_cons.mpr ⟨lw_p64, List.forall_mem_cons.mpr ⟨lw_p65, List.forall_mem_cons.mpr ⟨lw_p66, List.forall_mem_cons.mpr ⟨lw_p67, List.forall_mem_cons.mpr ⟨lw_p68, List.forall_mem_cons.mpr ⟨lw_p69, List.forall_mem_cons.mpr ⟨lw_p70, List.forall_mem_cons.mpr ⟨lw_p71, List.forall_mem_cons.mpr ⟨lw_p72, List.forall_mem_cons.mpr ⟨lw_p73, List.forall_mem_cons.mpr ⟨lw_p74, List.forall_mem_cons.mpr ⟨lw_p75, List.forall_mem_cons.mpr ⟨lw_p76, List.forall_mem_cons.mpr ⟨lw_p77, List.forall_mem_cons.mpr ⟨lw_p78, List.forall_mem_cons.mpr ⟨lw_p79, fun _ h => absurd h List.not_mem_nil⟩⟩⟩⟩⟩⟩⟩⟩⟩⟩⟩⟩⟩⟩⟩⟩
theorem lw_p80 : lw_okq (⟨"EvenFerryModel", "firstOf", "(II)I"⟩, 55) := ⟨⟨by decide +kernel, by decide +kernel⟩, List.mem_of_getElem? (i := 1169) (by decide +kernel), List.mem_of_getElem? (i := 1546) (by decide +kernel), List.mem_of_getElem? (i := 1547) (by decide +kernel)⟩
theorem lw_p81 : lw_okq (⟨"EvenFerryModel", "waitOf", "(I)I"⟩, 55) := ⟨⟨by decide +kernel, by decide +kernel⟩, List.mem_of_getElem? (i := 1169) (by decide +kernel), List.mem_of_getElem? (i := 1558) (by decide +kernel), List.mem_of_getElem? (i := 1559) (by decide +kernel)⟩
theorem lw_p82 : lw_okq (⟨"EvenFerryModel", "costAll", "(I)I"⟩, 55) := ⟨⟨by decide +kernel, by decide +kernel⟩, List.mem_of_getElem? (i := 1169) (by decide +kernel), List.mem_of_getElem? (i := 1566) (by decide +kernel), List.mem_of_getElem? (i := 1567) (by decide +kernel)⟩
theorem lw_p83 : lw_okq (⟨"EvenFerryModel", "waitsBehind", "(II)Z"⟩, 55) := ⟨⟨by decide +kernel, by decide +kernel⟩, List.mem_of_getElem? (i := 1169) (by decide +kernel), List.mem_of_getElem? (i := 1577) (by decide +kernel), List.mem_of_getElem? (i := 1578) (by decide +kernel)⟩
theorem lw_p84 : lw_okq (⟨"EvenFerryModel", "ringsBy", "(III)Z"⟩, 55) := ⟨⟨by decide +kernel, by decide +kernel⟩, List.mem_of_getElem? (i := 1169) (by decide +kernel), List.mem_of_getElem? (i := 1585) (by decide +kernel), List.mem_of_getElem? (i := 1586) (by decide +kernel)⟩
theorem lw_p85 : lw_okq (⟨"EvenFerryModel", "canTurn", "(II)Z"⟩, 55) := ⟨⟨by decide +kernel, by decide +kernel⟩, List.mem_of_getElem? (i := 1169) (by decide +kernel), List.mem_of_getElem? (i := 1593) (by decide +kernel), List.mem_of_getElem? (i := 1594) (by decide +kernel)⟩
theorem lw_p86 : lw_okq (⟨"EvenFerryModel", "turns", "(II)I"⟩, 55) := ⟨⟨by decide +kernel, by decide +kernel⟩, List.mem_of_getElem? (i := 1169) (by decide +kernel), List.mem_of_getElem? (i := 1597) (by decide +kernel), List.mem_of_getElem? (i := 1598) (by decide +kernel)⟩
theorem lw_p87 : lw_okq (⟨"EvenFerryModel", "choices", "()I"⟩, 55) := ⟨⟨by decide +kernel, by decide +kernel⟩, List.mem_of_getElem? (i := 1169) (by decide +kernel), List.mem_of_getElem? (i := 1609) (by decide +kernel), List.mem_of_getElem? (i := 1610) (by decide +kernel)⟩
theorem lw_p88 : lw_okq (⟨"EvenFerryModel", "isRest", "(I)Z"⟩, 55) := ⟨⟨by decide +kernel, by decide +kernel⟩, List.mem_of_getElem? (i := 1169) (by decide +kernel), List.mem_of_getElem? (i := 1621) (by decide +kernel), List.mem_of_getElem? (i := 1622) (by decide +kernel)⟩
theorem lw_p89 : lw_okq (⟨"EvenFerryModel", "chance", "(I)J"⟩, 55) := ⟨⟨by decide +kernel, by decide +kernel⟩, List.mem_of_getElem? (i := 1169) (by decide +kernel), List.mem_of_getElem? (i := 1646) (by decide +kernel), List.mem_of_getElem? (i := 1647) (by decide +kernel)⟩
theorem lw_p90 : lw_okq (⟨"EvenFerryModel", "draws", "(I)I"⟩, 55) := ⟨⟨by decide +kernel, by decide +kernel⟩, List.mem_of_getElem? (i := 1169) (by decide +kernel), List.mem_of_getElem? (i := 1669) (by decide +kernel), List.mem_of_getElem? (i := 1670) (by decide +kernel)⟩
def lw_privs_6 : List (MethodName × Nat) := [(⟨"EvenFerryModel", "firstOf", "(II)I"⟩, 55), (⟨"EvenFerryModel", "waitOf", "(I)I"⟩, 55), (⟨"EvenFerryModel", "costAll", "(I)I"⟩, 55), (⟨"EvenFerryModel", "waitsBehind", "(II)Z"⟩, 55), (⟨"EvenFerryModel", "ringsBy", "(III)Z"⟩, 55), (⟨"EvenFerryModel", "canTurn", "(II)Z"⟩, 55), (⟨"EvenFerryModel", "turns", "(II)I"⟩, 55), (⟨"EvenFerryModel", "choices", "()I"⟩, 55), (⟨"EvenFerryModel", "isRest", "(I)Z"⟩, 55), (⟨"EvenFerryModel", "chance", "(I)J"⟩, 55), (⟨"EvenFerryModel", "draws", "(I)I"⟩, 55)]
theorem lw_r6 : ∀ q ∈ lw_privs_6, lw_okq q := List.forall_mem_cons.mpr ⟨lw_p80, List.forall_mem_cons.mpr ⟨lw_p81, List.forall_mem_cons.mpr ⟨lw_p82, List.forall_mem_cons.mpr ⟨lw_p83, List.forall_mem_cons.mpr ⟨lw_p84, List.forall_mem_cons.mpr ⟨lw_p85, List.forall_mem_cons.mpr ⟨lw_p86, List.forall_mem_cons.mpr ⟨lw_p87, List.forall_mem_cons.mpr ⟨lw_p88, List.forall_mem_cons.mpr ⟨lw_p89, List.forall_mem_cons.mpr ⟨lw_p90, fun _ h => absurd h List.not_mem_nil⟩⟩⟩⟩⟩⟩⟩⟩⟩⟩⟩
def lw_privs : List (MethodName × Nat) := lw_privs_1 ++ (lw_privs_2 ++ (lw_privs_3 ++ (lw_privs_4 ++ (lw_privs_5 ++ (lw_privs_6)))))
def lw_tbl : List Cond := k2_sels lw_privs ++ tables_1
theorem lw_privs_ok : ∀ q ∈ lw_privs, lw_okq q := by
  show ∀ q ∈ lw_privs_1 ++ (lw_privs_2 ++ (lw_privs_3 ++ (lw_privs_4 ++ (lw_privs_5 ++ (lw_privs_6))))), lw_okq q
  exact List.forall_mem_append.mpr ⟨lw_r1, List.forall_mem_append.mpr ⟨lw_r2, List.forall_mem_append.mpr ⟨lw_r3, List.forall_mem_append.mpr ⟨lw_r4, List.forall_mem_append.mpr ⟨lw_r5, lw_r6⟩⟩⟩⟩⟩
end
section
def RX0 : String := "EvenFerry$Bank"
def TX0 : u_T := fun k => match k with
  | 0 => ("EvenFerry$Bank", "row", "[I", true)
  | 1 => ("EvenFerry$Bank", "head", "I", false)
  | 2 => ("EvenFerry$Bank", "tail", "I", false)
  | 3 => ("EvenFerry$Bank", "counts", "I", false)
  | 4 => ("EvenFerry$Bank", "load", "I", false)
  | _ => ("EvenFerry$Bank", "guests", "I", false)
def tyX0 : Nat → FieldType := fun k => match k with
  | 0 => .array .int
  | 1 => .int
  | 2 => .int
  | 3 => .int
  | 4 => .int
  | _ => .int
theorem nmX0 : ∀ a, a < 6 → ∀ b, b < 6 → a ≠ b → (TX0 a).2.1 ≠ (TX0 b).2.1 := by decide +kernel
theorem tyX0_ok : ∀ k, k < 6 → parseFieldDescriptor (TX0 k).2.2.1 = some (tyX0 k) := by decide +kernel
abbrev cX0_init : ByteArray := prog_2_method_1_code
def yX0_init : MethodName := ⟨RX0, "<init>", "(I)V"⟩
abbrev cX0_empty : ByteArray := prog_2_method_2_code
def yX0_empty : MethodName := ⟨RX0, "empty", "()V"⟩
abbrev cX0_join : ByteArray := prog_2_method_3_code
def yX0_join : MethodName := ⟨RX0, "join", "(ILEvenFerry$Crowd;)V"⟩
abbrev cX0_leaveFirst : ByteArray := prog_2_method_4_code
def yX0_leaveFirst : MethodName := ⟨RX0, "leaveFirst", "(LEvenFerry$Crowd;)V"⟩
abbrev cX0_leave : ByteArray := prog_2_method_5_code
def yX0_leave : MethodName := ⟨RX0, "leave", "(ILEvenFerry$Crowd;)V"⟩
abbrev cX0_size : ByteArray := prog_2_method_6_code
def yX0_size : MethodName := ⟨RX0, "size", "()I"⟩
abbrev cX0_countWithGuests : ByteArray := prog_2_method_7_code
def yX0_countWithGuests : MethodName := ⟨RX0, "countWithGuests", "()I"⟩
abbrev cX0_loadWithGuests : ByteArray := prog_2_method_8_code
def yX0_loadWithGuests : MethodName := ⟨RX0, "loadWithGuests", "()I"⟩
def RX1 : String := "EvenFerry$Choices"
def TX1 : u_T := fun k => match k with
  | 0 => ("EvenFerry$Choices", "costs", "[I", true)
  | 1 => ("EvenFerry$Choices", "ownCosts", "[I", true)
  | 2 => ("EvenFerry$Choices", "restBits", "[I", true)
  | 3 => ("EvenFerry$Choices", "sides", "[I", true)
  | 4 => ("EvenFerry$Choices", "cheapest", "I", false)
  | 5 => ("EvenFerry$Choices", "resting", "I", false)
  | _ => ("EvenFerry$Choices", "known", "Z", false)
def tyX1 : Nat → FieldType := fun k => match k with
  | 0 => .array .int
  | 1 => .array .int
  | 2 => .array .int
  | 3 => .array .int
  | 4 => .int
  | 5 => .int
  | _ => .boolean
theorem nmX1 : ∀ a, a < 7 → ∀ b, b < 7 → a ≠ b → (TX1 a).2.1 ≠ (TX1 b).2.1 := by decide +kernel
theorem tyX1_ok : ∀ k, k < 7 → parseFieldDescriptor (TX1 k).2.2.1 = some (tyX1 k) := by decide +kernel
abbrev cX1_init : ByteArray := prog_3_method_1_code
def yX1_init : MethodName := ⟨RX1, "<init>", "()V"⟩
abbrev cX1_weigh : ByteArray := prog_3_method_2_code
def yX1_weigh : MethodName := ⟨RX1, "weigh", "(LEvenFerry$State;LEvenFerry$Day;)V"⟩
abbrev cX1_seat : ByteArray := prog_3_method_3_code
def yX1_seat : MethodName := ⟨RX1, "seat", "(LEvenFerry$River;I)V"⟩
abbrev cX1_findCheapest : ByteArray := prog_3_method_4_code
def yX1_findCheapest : MethodName := ⟨RX1, "findCheapest", "(I)V"⟩
abbrev cX1_findResting : ByteArray := prog_3_method_5_code
def yX1_findResting : MethodName := ⟨RX1, "findResting", "(II)V"⟩
abbrev cX1_isAtRest : ByteArray := prog_3_method_6_code
def yX1_isAtRest : MethodName := ⟨RX1, "isAtRest", "(II)Z"⟩
def RX2 : String := "EvenFerry$Crowd"
def TX2 : u_T := fun k => match k with
  | 0 => ("EvenFerry$Crowd", "times", "[I", true)
  | 1 => ("EvenFerry$Crowd", "sides", "[I", true)
  | 2 => ("EvenFerry$Crowd", "weights", "[I", true)
  | 3 => ("EvenFerry$Crowd", "counts", "[I", true)
  | 4 => ("EvenFerry$Crowd", "order", "[I", true)
  | _ => ("EvenFerry$Crowd", "size", "I", false)
def tyX2 : Nat → FieldType := fun k => match k with
  | 0 => .array .int
  | 1 => .array .int
  | 2 => .array .int
  | 3 => .array .int
  | 4 => .array .int
  | _ => .int
theorem nmX2 : ∀ a, a < 6 → ∀ b, b < 6 → a ≠ b → (TX2 a).2.1 ≠ (TX2 b).2.1 := by decide +kernel
theorem tyX2_ok : ∀ k, k < 6 → parseFieldDescriptor (TX2 k).2.2.1 = some (tyX2 k) := by decide +kernel
abbrev cX2_init : ByteArray := prog_4_method_1_code
def yX2_init : MethodName := ⟨RX2, "<init>", "(I)V"⟩
abbrev cX2_add : ByteArray := prog_4_method_2_code
def yX2_add : MethodName := ⟨RX2, "add", "(IIII)V"⟩
abbrev cX2_timeAt : ByteArray := prog_4_method_3_code
def yX2_timeAt : MethodName := ⟨RX2, "timeAt", "(I)I"⟩
def RX3 : String := "EvenFerry$Day"
def TX3 : u_T := fun k => match k with
  | 0 => ("EvenFerry$Day", "left", "LEvenFerry$Bank;", true)
  | 1 => ("EvenFerry$Day", "right", "LEvenFerry$Bank;", true)
  | 2 => ("EvenFerry$Day", "goesAt", "[I", true)
  | 3 => ("EvenFerry$Day", "goesBy", "[I", true)
  | 4 => ("EvenFerry$Day", "ringMinutes", "[I", true)
  | 5 => ("EvenFerry$Day", "fromLeft", "[I", true)
  | 6 => ("EvenFerry$Day", "fromRight", "[I", true)
  | 7 => ("EvenFerry$Day", "boatBack", "[I", true)
  | 8 => ("EvenFerry$Day", "facts", "[I", true)
  | 9 => ("EvenFerry$Day", "stack", "[I", true)
  | 10 => ("EvenFerry$Day", "ringings", "I", false)
  | 11 => ("EvenFerry$Day", "next", "I", false)
  | 12 => ("EvenFerry$Day", "river", "LEvenFerry$River;", false)
  | 13 => ("EvenFerry$Day", "crowd", "LEvenFerry$Crowd;", false)
  | 14 => ("EvenFerry$Day", "sides", "[I", false)
  | 15 => ("EvenFerry$Day", "law", "I", false)
  | 16 => ("EvenFerry$Day", "leaver", "I", false)
  | _ => ("EvenFerry$Day", "leaving", "I", false)
def tyX3 : Nat → FieldType := fun k => match k with
  | 0 => .object "EvenFerry$Bank"
  | 1 => .object "EvenFerry$Bank"
  | 2 => .array .int
  | 3 => .array .int
  | 4 => .array .int
  | 5 => .array .int
  | 6 => .array .int
  | 7 => .array .int
  | 8 => .array .int
  | 9 => .array .int
  | 10 => .int
  | 11 => .int
  | 12 => .object "EvenFerry$River"
  | 13 => .object "EvenFerry$Crowd"
  | 14 => .array .int
  | 15 => .int
  | 16 => .int
  | _ => .int
theorem nmX3 : ∀ a, a < 18 → ∀ b, b < 18 → a ≠ b → (TX3 a).2.1 ≠ (TX3 b).2.1 := by decide +kernel
theorem tyX3_ok : ∀ k, k < 18 → parseFieldDescriptor (TX3 k).2.2.1 = some (tyX3 k) := by decide +kernel
abbrev cX3_init : ByteArray := prog_5_method_1_code
def yX3_init : MethodName := ⟨RX3, "<init>", "(LEvenFerry$River;I)V"⟩
abbrev cX3_begin : ByteArray := prog_5_method_2_code
def yX3_begin : MethodName := ⟨RX3, "begin", "(LEvenFerry$River;ILEvenFerry$Crowd;[I)V"⟩
abbrev cX3_letGoHome : ByteArray := prog_5_method_3_code
def yX3_letGoHome : MethodName := ⟨RX3, "letGoHome", "(II)V"⟩
abbrev cX3_run : ByteArray := prog_5_method_4_code
def yX3_run : MethodName := ⟨RX3, "run", "(I)V"⟩
abbrev cX3_soonest : ByteArray := prog_5_method_5_code
def yX3_soonest : MethodName := ⟨RX3, "soonest", "(I)I"⟩
abbrev cX3_firstHolding : ByteArray := prog_5_method_6_code
def yX3_firstHolding : MethodName := ⟨RX3, "firstHolding", "(II)I"⟩
abbrev cX3_come : ByteArray := prog_5_method_7_code
def yX3_come : MethodName := ⟨RX3, "come", "(I)V"⟩
abbrev cX3_bankOf : ByteArray := prog_5_method_8_code
def yX3_bankOf : MethodName := ⟨RX3, "bankOf", "(I)LEvenFerry$Bank;"⟩
abbrev cX3_wouldRing : ByteArray := prog_5_method_9_code
def yX3_wouldRing : MethodName := ⟨RX3, "wouldRing", "(I)Z"⟩
abbrev cX3_wouldRingWith : ByteArray := prog_5_method_10_code
def yX3_wouldRingWith : MethodName := ⟨RX3, "wouldRingWith", "(III)Z"⟩
abbrev cX3_freeBoat : ByteArray := prog_5_method_11_code
def yX3_freeBoat : MethodName := ⟨RX3, "freeBoat", "(I)I"⟩
abbrev cX3_gatherFacts : ByteArray := prog_5_method_12_code
def yX3_gatherFacts : MethodName := ⟨RX3, "gatherFacts", "(I)V"⟩
abbrev cX3_earliest : ByteArray := prog_5_method_13_code
def yX3_earliest : MethodName := ⟨RX3, "earliest", "(LEvenFerry$Bank;I)I"⟩
abbrev cX3_goOver : ByteArray := prog_5_method_14_code
def yX3_goOver : MethodName := ⟨RX3, "goOver", "(I)V"⟩
abbrev cX3_board : ByteArray := prog_5_method_15_code
def yX3_board : MethodName := ⟨RX3, "board", "(LEvenFerry$Bank;I)I"⟩
abbrev cX3_misjudged : ByteArray := prog_5_method_16_code
def yX3_misjudged : MethodName := ⟨RX3, "misjudged", "([II)I"⟩
abbrev cX3_isWaitingBehind : ByteArray := prog_5_method_17_code
def yX3_isWaitingBehind : MethodName := ⟨RX3, "isWaitingBehind", "(II)Z"⟩
abbrev cX3_waitOf : ByteArray := prog_5_method_18_code
def yX3_waitOf : MethodName := ⟨RX3, "waitOf", "(I)I"⟩
abbrev cX3_longestWait : ByteArray := prog_5_method_19_code
def yX3_longestWait : MethodName := ⟨RX3, "longestWait", "()I"⟩
abbrev cX3_costOf : ByteArray := prog_5_method_20_code
def yX3_costOf : MethodName := ⟨RX3, "costOf", "(I)I"⟩
abbrev cX3_costWithout : ByteArray := prog_5_method_21_code
def yX3_costWithout : MethodName := ⟨RX3, "costWithout", "(I)I"⟩
def RX4 : String := "EvenFerry$Lots"
def TX4 : u_T := fun k => match k with
  | 0 => ("EvenFerry$Lots", "crowd", "LEvenFerry$Crowd;", true)
  | 1 => ("EvenFerry$Lots", "known", "Z", false)
  | 2 => ("EvenFerry$Lots", "knownSeed", "I", false)
  | 3 => ("EvenFerry$Lots", "knownDays", "I", false)
  | 4 => ("EvenFerry$Lots", "ringings", "I", false)
  | 5 => ("EvenFerry$Lots", "comers", "I", false)
  | 6 => ("EvenFerry$Lots", "waited", "I", false)
  | 7 => ("EvenFerry$Lots", "nights", "I", false)
  | 8 => ("EvenFerry$Lots", "longest", "I", false)
  | _ => ("EvenFerry$Lots", "drawn", "J", false)
def tyX4 : Nat → FieldType := fun k => match k with
  | 0 => .object "EvenFerry$Crowd"
  | 1 => .boolean
  | 2 => .int
  | 3 => .int
  | 4 => .int
  | 5 => .int
  | 6 => .int
  | 7 => .int
  | 8 => .int
  | _ => .long
theorem nmX4 : ∀ a, a < 10 → ∀ b, b < 10 → a ≠ b → (TX4 a).2.1 ≠ (TX4 b).2.1 := by decide +kernel
theorem tyX4_ok : ∀ k, k < 10 → parseFieldDescriptor (TX4 k).2.2.1 = some (tyX4 k) := by decide +kernel
abbrev cX4_init : ByteArray := prog_6_method_1_code
def yX4_init : MethodName := ⟨RX4, "<init>", "()V"⟩
abbrev cX4_isKnown : ByteArray := prog_6_method_2_code
def yX4_isKnown : MethodName := ⟨RX4, "isKnown", "(II)Z"⟩
abbrev cX4_go : ByteArray := prog_6_method_3_code
def yX4_go : MethodName := ⟨RX4, "go", "(LEvenFerry$State;LEvenFerry$Day;II)V"⟩
abbrev cX4_drawCrowd : ByteArray := prog_6_method_4_code
def yX4_drawCrowd : MethodName := ⟨RX4, "drawCrowd", "(LEvenFerry$River;)V"⟩
abbrev cX4_draw : ByteArray := prog_6_method_5_code
def yX4_draw : MethodName := ⟨RX4, "draw", "(I)I"⟩
abbrev cX4_addUp : ByteArray := prog_6_method_6_code
def yX4_addUp : MethodName := ⟨RX4, "addUp", "(LEvenFerry$Day;)V"⟩
def RX5 : String := "EvenFerry$Parser"
def TX5 : u_T := fun k => match k with
  | 0 => ("EvenFerry$Parser", "tape", "LEvenFerry$Tape;", true)
  | 1 => ("EvenFerry$Parser", "names", "[J", true)
  | 2 => ("EvenFerry$Parser", "code", "[I", true)
  | 3 => ("EvenFerry$Parser", "river", "LEvenFerry$River;", false)
  | 4 => ("EvenFerry$Parser", "written", "I", false)
  | 5 => ("EvenFerry$Parser", "token", "I", false)
  | 6 => ("EvenFerry$Parser", "fault", "I", false)
  | _ => ("EvenFerry$Parser", "toldOnce", "I", false)
def tyX5 : Nat → FieldType := fun k => match k with
  | 0 => .object "EvenFerry$Tape"
  | 1 => .array .long
  | 2 => .array .int
  | 3 => .object "EvenFerry$River"
  | 4 => .int
  | 5 => .int
  | 6 => .int
  | _ => .int
theorem nmX5 : ∀ a, a < 8 → ∀ b, b < 8 → a ≠ b → (TX5 a).2.1 ≠ (TX5 b).2.1 := by decide +kernel
theorem tyX5_ok : ∀ k, k < 8 → parseFieldDescriptor (TX5 k).2.2.1 = some (tyX5 k) := by decide +kernel
abbrev cX5_init : ByteArray := prog_7_method_1_code
def yX5_init : MethodName := ⟨RX5, "<init>", "(LEvenFerry$Tape;LEvenFerry$River;)V"⟩
abbrev cX5_read : ByteArray := prog_7_method_2_code
def yX5_read : MethodName := ⟨RX5, "read", "(LEvenFerry$River;)I"⟩
abbrev cX5_kind : ByteArray := prog_7_method_3_code
def yX5_kind : MethodName := ⟨RX5, "kind", "()I"⟩
abbrev cX5_step : ByteArray := prog_7_method_4_code
def yX5_step : MethodName := ⟨RX5, "step", "()V"⟩
abbrev cX5_wrong : ByteArray := prog_7_method_5_code
def yX5_wrong : MethodName := ⟨RX5, "wrong", "(I)V"⟩
abbrev cX5_expect : ByteArray := prog_7_method_6_code
def yX5_expect : MethodName := ⟨RX5, "expect", "(I)V"⟩
abbrev cX5_number : ByteArray := prog_7_method_7_code
def yX5_number : MethodName := ⟨RX5, "number", "(II)I"⟩
abbrev cX5_line : ByteArray := prog_7_method_8_code
def yX5_line : MethodName := ⟨RX5, "line", "()V"⟩
abbrev cX5_lineToldOnce : ByteArray := prog_7_method_9_code
def yX5_lineToldOnce : MethodName := ⟨RX5, "lineToldOnce", "(I)V"⟩
abbrev cX5_personLine : ByteArray := prog_7_method_10_code
def yX5_personLine : MethodName := ⟨RX5, "personLine", "()V"⟩
abbrev cX5_name : ByteArray := prog_7_method_11_code
def yX5_name : MethodName := ⟨RX5, "name", "()V"⟩
abbrev cX5_sideWord : ByteArray := prog_7_method_12_code
def yX5_sideWord : MethodName := ⟨RX5, "sideWord", "()I"⟩
abbrev cX5_kindWord : ByteArray := prog_7_method_13_code
def yX5_kindWord : MethodName := ⟨RX5, "kindWord", "()I"⟩
abbrev cX5_lawLine : ByteArray := prog_7_method_14_code
def yX5_lawLine : MethodName := ⟨RX5, "lawLine", "()V"⟩
abbrev cX5_write : ByteArray := prog_7_method_15_code
def yX5_write : MethodName := ⟨RX5, "write", "(I)V"⟩
abbrev cX5_chain : ByteArray := prog_7_method_16_code
def yX5_chain : MethodName := ⟨RX5, "chain", "(II)V"⟩
abbrev cX5_levelOf : ByteArray := prog_7_method_17_code
def yX5_levelOf : MethodName := ⟨RX5, "levelOf", "(I)I"⟩
abbrev cX5_part : ByteArray := prog_7_method_18_code
def yX5_part : MethodName := ⟨RX5, "part", "(I)V"⟩
def RX6 : String := "EvenFerry$River"
def TX6 : u_T := fun k => match k with
  | 0 => ("EvenFerry$River", "people", "LEvenFerry$Crowd;", true)
  | 1 => ("EvenFerry$River", "costs", "[I", true)
  | 2 => ("EvenFerry$River", "kinds", "[I", true)
  | 3 => ("EvenFerry$River", "chooserPersons", "[I", true)
  | 4 => ("EvenFerry$River", "lawStarts", "[I", true)
  | 5 => ("EvenFerry$River", "code", "[I", false)
  | 6 => ("EvenFerry$River", "room", "I", false)
  | 7 => ("EvenFerry$River", "trip", "I", false)
  | 8 => ("EvenFerry$River", "boats", "I", false)
  | 9 => ("EvenFerry$River", "first", "I", false)
  | 10 => ("EvenFerry$River", "second", "I", false)
  | 11 => ("EvenFerry$River", "come", "I", false)
  | 12 => ("EvenFerry$River", "choosers", "I", false)
  | 13 => ("EvenFerry$River", "laws", "I", false)
  | _ => ("EvenFerry$River", "timedLaws", "I", false)
def tyX6 : Nat → FieldType := fun k => match k with
  | 0 => .object "EvenFerry$Crowd"
  | 1 => .array .int
  | 2 => .array .int
  | 3 => .array .int
  | 4 => .array .int
  | 5 => .array .int
  | 6 => .int
  | 7 => .int
  | 8 => .int
  | 9 => .int
  | 10 => .int
  | 11 => .int
  | 12 => .int
  | 13 => .int
  | _ => .int
theorem nmX6 : ∀ a, a < 15 → ∀ b, b < 15 → a ≠ b → (TX6 a).2.1 ≠ (TX6 b).2.1 := by decide +kernel
theorem tyX6_ok : ∀ k, k < 15 → parseFieldDescriptor (TX6 k).2.2.1 = some (tyX6 k) := by decide +kernel
abbrev cX6_init : ByteArray := prog_8_method_1_code
def yX6_init : MethodName := ⟨RX6, "<init>", "()V"⟩
abbrev cX6_addPerson : ByteArray := prog_8_method_2_code
def yX6_addPerson : MethodName := ⟨RX6, "addPerson", "(IIIII)V"⟩
abbrev cX6_countOf : ByteArray := prog_8_method_3_code
def yX6_countOf : MethodName := ⟨RX6, "countOf", "(I)I"⟩
abbrev cX6_endLaw : ByteArray := prog_8_method_4_code
def yX6_endLaw : MethodName := ⟨RX6, "endLaw", "(I)V"⟩
abbrev cX6_isTimed : ByteArray := prog_8_method_5_code
def yX6_isTimed : MethodName := ⟨RX6, "isTimed", "(I)Z"⟩
abbrev cX6_lawValue : ByteArray := prog_8_method_6_code
def yX6_lawValue : MethodName := ⟨RX6, "lawValue", "(I[I[I)I"⟩
abbrev cX6_joined : ByteArray := prog_8_method_7_code
def yX6_joined : MethodName := ⟨RX6, "joined", "(III)I"⟩
def RX7 : String := "EvenFerry$State"
def TX7 : u_T := fun k => match k with
  | 0 => ("EvenFerry$State", "told", "[I", true)
  | 1 => ("EvenFerry$State", "river", "LEvenFerry$River;", false)
  | 2 => ("EvenFerry$State", "law", "I", false)
  | 3 => ("EvenFerry$State", "tolds", "I", false)
  | _ => ("EvenFerry$State", "laid", "Z", false)
def tyX7 : Nat → FieldType := fun k => match k with
  | 0 => .array .int
  | 1 => .object "EvenFerry$River"
  | 2 => .int
  | 3 => .int
  | _ => .boolean
theorem nmX7 : ∀ a, a < 5 → ∀ b, b < 5 → a ≠ b → (TX7 a).2.1 ≠ (TX7 b).2.1 := by decide +kernel
theorem tyX7_ok : ∀ k, k < 5 → parseFieldDescriptor (TX7 k).2.2.1 = some (tyX7 k) := by decide +kernel
abbrev cX7_init : ByteArray := prog_9_method_1_code
def yX7_init : MethodName := ⟨RX7, "<init>", "(LEvenFerry$River;)V"⟩
abbrev cX7_start : ByteArray := prog_9_method_2_code
def yX7_start : MethodName := ⟨RX7, "start", "(LEvenFerry$River;)V"⟩
abbrev cX7_take : ByteArray := prog_9_method_3_code
def yX7_take : MethodName := ⟨RX7, "take", "(LEvenFerry$State;)V"⟩
abbrev cX7_addTold : ByteArray := prog_9_method_4_code
def yX7_addTold : MethodName := ⟨RX7, "addTold", "(I)Z"⟩
abbrev cX7_isTold : ByteArray := prog_9_method_5_code
def yX7_isTold : MethodName := ⟨RX7, "isTold", "(I)Z"⟩
def RX8 : String := "EvenFerry$Tape"
def TX8 : u_T := fun k => match k with
  | 0 => ("EvenFerry$Tape", "signs", "[C", true)
  | 1 => ("EvenFerry$Tape", "kinds", "[I", true)
  | 2 => ("EvenFerry$Tape", "places", "[I", true)
  | 3 => ("EvenFerry$Tape", "length", "I", false)
  | _ => ("EvenFerry$Tape", "tokens", "I", false)
def tyX8 : Nat → FieldType := fun k => match k with
  | 0 => .array .char
  | 1 => .array .int
  | 2 => .array .int
  | 3 => .int
  | _ => .int
theorem nmX8 : ∀ a, a < 5 → ∀ b, b < 5 → a ≠ b → (TX8 a).2.1 ≠ (TX8 b).2.1 := by decide +kernel
theorem tyX8_ok : ∀ k, k < 5 → parseFieldDescriptor (TX8 k).2.2.1 = some (tyX8 k) := by decide +kernel
abbrev cX8_init : ByteArray := prog_10_method_1_code
def yX8_init : MethodName := ⟨RX8, "<init>", "()V"⟩
abbrev cX8_append : ByteArray := prog_10_method_2_code
def yX8_append : MethodName := ⟨RX8, "append", "(J)V"⟩
abbrev cX8_cut : ByteArray := prog_10_method_3_code
def yX8_cut : MethodName := ⟨RX8, "cut", "()V"⟩
abbrev cX8_add : ByteArray := prog_10_method_4_code
def yX8_add : MethodName := ⟨RX8, "add", "(II)V"⟩
abbrev cX8_signAt : ByteArray := prog_10_method_5_code
def yX8_signAt : MethodName := ⟨RX8, "signAt", "(I)C"⟩
abbrev cX8_isLetter : ByteArray := prog_10_method_6_code
def yX8_isLetter : MethodName := ⟨RX8, "isLetter", "(C)Z"⟩
abbrev cX8_isDigit : ByteArray := prog_10_method_7_code
def yX8_isDigit : MethodName := ⟨RX8, "isDigit", "(C)Z"⟩
abbrev cX8_endOfWord : ByteArray := prog_10_method_8_code
def yX8_endOfWord : MethodName := ⟨RX8, "endOfWord", "(I)I"⟩
abbrev cX8_endOfNumber : ByteArray := prog_10_method_9_code
def yX8_endOfNumber : MethodName := ⟨RX8, "endOfNumber", "(I)I"⟩
abbrev cX8_wordKind : ByteArray := prog_10_method_10_code
def yX8_wordKind : MethodName := ⟨RX8, "wordKind", "(II)I"⟩
abbrev cX8_isWord : ByteArray := prog_10_method_11_code
def yX8_isWord : MethodName := ⟨RX8, "isWord", "(III)Z"⟩
abbrev cX8_nameKey : ByteArray := prog_10_method_12_code
def yX8_nameKey : MethodName := ⟨RX8, "nameKey", "(I)J"⟩
abbrev cX8_numberValue : ByteArray := prog_10_method_13_code
def yX8_numberValue : MethodName := ⟨RX8, "numberValue", "(I)I"⟩
def RX9 : String := "EvenFerry"
def TX9 : u_T := fun k => match k with
  | 0 => ("EvenFerry", "tape", "LEvenFerry$Tape;", true)
  | 1 => ("EvenFerry", "parser", "LEvenFerry$Parser;", true)
  | 2 => ("EvenFerry", "now", "LEvenFerry$State;", true)
  | 3 => ("EvenFerry", "marks", "[LEvenFerry$State;", true)
  | 4 => ("EvenFerry", "day", "LEvenFerry$Day;", true)
  | 5 => ("EvenFerry", "trial", "LEvenFerry$Day;", true)
  | 6 => ("EvenFerry", "choices", "LEvenFerry$Choices;", true)
  | 7 => ("EvenFerry", "lots", "LEvenFerry$Lots;", true)
  | _ => ("EvenFerry", "dayKnown", "Z", false)
def tyX9 : Nat → FieldType := fun k => match k with
  | 0 => .object "EvenFerry$Tape"
  | 1 => .object "EvenFerry$Parser"
  | 2 => .object "EvenFerry$State"
  | 3 => .array (.object "EvenFerry$State")
  | 4 => .object "EvenFerry$Day"
  | 5 => .object "EvenFerry$Day"
  | 6 => .object "EvenFerry$Choices"
  | 7 => .object "EvenFerry$Lots"
  | _ => .boolean
theorem nmX9 : ∀ a, a < 9 → ∀ b, b < 9 → a ≠ b → (TX9 a).2.1 ≠ (TX9 b).2.1 := by decide +kernel
theorem tyX9_ok : ∀ k, k < 9 → parseFieldDescriptor (TX9 k).2.2.1 = some (tyX9 k) := by decide +kernel
abbrev cX9_init : ByteArray := prog_1_method_1_code
def yX9_init : MethodName := ⟨RX9, "<init>", "()V"⟩
abbrev cX9_feed : ByteArray := prog_1_method_2_code
def yX9_feed : MethodName := ⟨RX9, "feed", "(JJJ)I"⟩
abbrev cX9_river : ByteArray := prog_1_method_3_code
def yX9_river : MethodName := ⟨RX9, "river", "()I"⟩
abbrev cX9_person : ByteArray := prog_1_method_4_code
def yX9_person : MethodName := ⟨RX9, "person", "(II)I"⟩
abbrev cX9_use : ByteArray := prog_1_method_5_code
def yX9_use : MethodName := ⟨RX9, "use", "(I)Z"⟩
abbrev cX9_rings : ByteArray := prog_1_method_6_code
def yX9_rings : MethodName := ⟨RX9, "rings", "()I"⟩
abbrev cX9_ring : ByteArray := prog_1_method_7_code
def yX9_ring : MethodName := ⟨RX9, "ring", "(II)I"⟩
abbrev cX9_waits : ByteArray := prog_1_method_8_code
def yX9_waits : MethodName := ⟨RX9, "waits", "(II)I"⟩
abbrev cX9_all : ByteArray := prog_1_method_9_code
def yX9_all : MethodName := ⟨RX9, "all", "(I)I"⟩
abbrev cX9_bank : ByteArray := prog_1_method_10_code
def yX9_bank : MethodName := ⟨RX9, "bank", "(III)I"⟩
abbrev cX9_send : ByteArray := prog_1_method_11_code
def yX9_send : MethodName := ⟨RX9, "send", "(II)I"⟩
abbrev cX9_turn : ByteArray := prog_1_method_12_code
def yX9_turn : MethodName := ⟨RX9, "turn", "(II)I"⟩
abbrev cX9_asks : ByteArray := prog_1_method_13_code
def yX9_asks : MethodName := ⟨RX9, "asks", "(I)I"⟩
abbrev cX9_choice : ByteArray := prog_1_method_14_code
def yX9_choice : MethodName := ⟨RX9, "choice", "(I)I"⟩
abbrev cX9_chosen : ByteArray := prog_1_method_15_code
def yX9_chosen : MethodName := ⟨RX9, "chosen", "(I)I"⟩
abbrev cX9_rests : ByteArray := prog_1_method_16_code
def yX9_rests : MethodName := ⟨RX9, "rests", "()I"⟩
abbrev cX9_rest : ByteArray := prog_1_method_17_code
def yX9_rest : MethodName := ⟨RX9, "rest", "(I)I"⟩
abbrev cX9_tell : ByteArray := prog_1_method_18_code
def yX9_tell : MethodName := ⟨RX9, "tell", "(I)I"⟩
abbrev cX9_clear : ByteArray := prog_1_method_19_code
def yX9_clear : MethodName := ⟨RX9, "clear", "()Z"⟩
abbrev cX9_judged : ByteArray := prog_1_method_20_code
def yX9_judged : MethodName := ⟨RX9, "judged", "(I)I"⟩
abbrev cX9_likely : ByteArray := prog_1_method_21_code
def yX9_likely : MethodName := ⟨RX9, "likely", "(II)J"⟩
abbrev cX9_mean : ByteArray := prog_1_method_22_code
def yX9_mean : MethodName := ⟨RX9, "mean", "(II)J"⟩
abbrev cX9_came : ByteArray := prog_1_method_23_code
def yX9_came : MethodName := ⟨RX9, "came", "(I)J"⟩
abbrev cX9_lots : ByteArray := prog_1_method_24_code
def yX9_lots : MethodName := ⟨RX9, "lots", "(III)I"⟩
abbrev cX9_best : ByteArray := prog_1_method_25_code
def yX9_best : MethodName := ⟨RX9, "best", "()I"⟩
abbrev cX9_mark : ByteArray := prog_1_method_26_code
def yX9_mark : MethodName := ⟨RX9, "mark", "(IZ)Z"⟩
abbrev cX9_count : ByteArray := prog_1_method_27_code
def yX9_count : MethodName := ⟨RX9, "count", "(I)I"⟩
abbrev cX9_get : ByteArray := prog_1_method_28_code
def yX9_get : MethodName := ⟨RX9, "get", "([II)I"⟩
abbrev cX9_set : ByteArray := prog_1_method_29_code
def yX9_set : MethodName := ⟨RX9, "set", "([III)V"⟩
abbrev cX9_isMinute : ByteArray := prog_1_method_30_code
def yX9_isMinute : MethodName := ⟨RX9, "isMinute", "(I)Z"⟩
abbrev cX9_isPerson : ByteArray := prog_1_method_31_code
def yX9_isPerson : MethodName := ⟨RX9, "isPerson", "(I)Z"⟩
abbrev cX9_forget : ByteArray := prog_1_method_32_code
def yX9_forget : MethodName := ⟨RX9, "forget", "()V"⟩
abbrev cX9_knowDay : ByteArray := prog_1_method_33_code
def yX9_knowDay : MethodName := ⟨RX9, "knowDay", "()V"⟩
abbrev cX9_beginTrial : ByteArray := prog_1_method_34_code
def yX9_beginTrial : MethodName := ⟨RX9, "beginTrial", "(I)V"⟩
abbrev cX9_nightBits : ByteArray := prog_1_method_35_code
def yX9_nightBits : MethodName := ⟨RX9, "nightBits", "()I"⟩
abbrev cX9_waitsAt : ByteArray := prog_1_method_36_code
def yX9_waitsAt : MethodName := ⟨RX9, "waitsAt", "(III)Z"⟩
abbrev cX9_heads : ByteArray := prog_1_method_37_code
def yX9_heads : MethodName := ⟨RX9, "heads", "(II)I"⟩
abbrev cX9_together : ByteArray := prog_1_method_38_code
def yX9_together : MethodName := ⟨RX9, "together", "([III)I"⟩
abbrev cX9_mayTurn : ByteArray := prog_1_method_39_code
def yX9_mayTurn : MethodName := ⟨RX9, "mayTurn", "(II)Z"⟩
abbrev cX9_gainByTurning : ByteArray := prog_1_method_40_code
def yX9_gainByTurning : MethodName := ⟨RX9, "gainByTurning", "(II)I"⟩
abbrev cX9_levels : ByteArray := prog_1_method_41_code
def yX9_levels : MethodName := ⟨RX9, "levels", "(IZ)J"⟩
abbrev cX9_orders : ByteArray := prog_1_method_42_code
def yX9_orders : MethodName := ⟨RX9, "orders", "(I)J"⟩
abbrev cX9_power : ByteArray := prog_1_method_43_code
def yX9_power : MethodName := ⟨RX9, "power", "(JI)J"⟩
abbrev cX9_lowest : ByteArray := prog_1_method_44_code
def yX9_lowest : MethodName := ⟨RX9, "lowest", "(JJJ)J"⟩
def RX10 : String := "EvenFerryModel"
def TX10 : u_T := fun k => match k with
  | 0 => ("EvenFerryModel", "thrown", "I", false)
  | 1 => ("EvenFerryModel", "taped", "I", false)
  | 2 => ("EvenFerryModel", "tape", "[I", true)
  | 3 => ("EvenFerryModel", "size", "I", false)
  | 4 => ("EvenFerryModel", "place", "I", false)
  | 5 => ("EvenFerryModel", "begin", "I", false)
  | 6 => ("EvenFerryModel", "token", "I", false)
  | 7 => ("EvenFerryModel", "word", "J", false)
  | 8 => ("EvenFerryModel", "told", "I", false)
  | 9 => ("EvenFerryModel", "wrong", "I", false)
  | 10 => ("EvenFerryModel", "river", "[I", true)
  | 11 => ("EvenFerryModel", "lineFrom", "[I", true)
  | 12 => ("EvenFerryModel", "lineTo", "[I", true)
  | 13 => ("EvenFerryModel", "codes", "[I", true)
  | 14 => ("EvenFerryModel", "names", "[J", true)
  | 15 => ("EvenFerryModel", "sideOf", "[I", true)
  | 16 => ("EvenFerryModel", "atOf", "[I", true)
  | 17 => ("EvenFerryModel", "weightOf", "[I", true)
  | 18 => ("EvenFerryModel", "costOf", "[I", true)
  | 19 => ("EvenFerryModel", "kindOf", "[I", true)
  | 20 => ("EvenFerryModel", "tellAt", "[I", true)
  | 21 => ("EvenFerryModel", "code", "I", false)
  | 22 => ("EvenFerryModel", "isTold", "I", false)
  | 23 => ("EvenFerryModel", "opened", "[I", true)
  | 24 => ("EvenFerryModel", "compared", "[Z", true)
  | 25 => ("EvenFerryModel", "kept", "[I", true)
  | 26 => ("EvenFerryModel", "keptBy", "[I", true)
  | 27 => ("EvenFerryModel", "ahead", "[I", true)
  | 28 => ("EvenFerryModel", "against", "[I", true)
  | 29 => ("EvenFerryModel", "sum", "[I", true)
  | 30 => ("EvenFerryModel", "sumBy", "[I", true)
  | 31 => ("EvenFerryModel", "term", "[I", true)
  | 32 => ("EvenFerryModel", "termBy", "[I", true)
  | 33 => ("EvenFerryModel", "byNot", "[I", true)
  | 34 => ("EvenFerryModel", "valueOf", "[I", true)
  | 35 => ("EvenFerryModel", "given", "I", false)
  | 36 => ("EvenFerryModel", "people", "I", false)
  | 37 => ("EvenFerryModel", "side", "[I", true)
  | 38 => ("EvenFerryModel", "at", "[I", true)
  | 39 => ("EvenFerryModel", "weight", "[I", true)
  | 40 => ("EvenFerryModel", "cost", "[I", true)
  | 41 => ("EvenFerryModel", "counts", "[I", true)
  | 42 => ("EvenFerryModel", "gone", "[I", true)
  | 43 => ("EvenFerryModel", "goesBy", "[I", true)
  | 44 => ("EvenFerryModel", "rings", "I", false)
  | 45 => ("EvenFerryModel", "ringAt", "[I", true)
  | 46 => ("EvenFerryModel", "ringLeft", "[I", true)
  | 47 => ("EvenFerryModel", "ringRight", "[I", true)
  | 48 => ("EvenFerryModel", "boat0", "I", false)
  | 49 => ("EvenFerryModel", "boat1", "I", false)
  | 50 => ("EvenFerryModel", "law", "I", false)
  | 51 => ("EvenFerryModel", "choiceCost", "[I", true)
  | 52 => ("EvenFerryModel", "own", "[I", true)
  | 53 => ("EvenFerryModel", "g", "J", false)
  | _ => ("EvenFerryModel", "isLaid", "[Z", true)
def tyX10 : Nat → FieldType := fun k => match k with
  | 0 => .int
  | 1 => .int
  | 2 => .array .int
  | 3 => .int
  | 4 => .int
  | 5 => .int
  | 6 => .int
  | 7 => .long
  | 8 => .int
  | 9 => .int
  | 10 => .array .int
  | 11 => .array .int
  | 12 => .array .int
  | 13 => .array .int
  | 14 => .array .long
  | 15 => .array .int
  | 16 => .array .int
  | 17 => .array .int
  | 18 => .array .int
  | 19 => .array .int
  | 20 => .array .int
  | 21 => .int
  | 22 => .int
  | 23 => .array .int
  | 24 => .array .boolean
  | 25 => .array .int
  | 26 => .array .int
  | 27 => .array .int
  | 28 => .array .int
  | 29 => .array .int
  | 30 => .array .int
  | 31 => .array .int
  | 32 => .array .int
  | 33 => .array .int
  | 34 => .array .int
  | 35 => .int
  | 36 => .int
  | 37 => .array .int
  | 38 => .array .int
  | 39 => .array .int
  | 40 => .array .int
  | 41 => .array .int
  | 42 => .array .int
  | 43 => .array .int
  | 44 => .int
  | 45 => .array .int
  | 46 => .array .int
  | 47 => .array .int
  | 48 => .int
  | 49 => .int
  | 50 => .int
  | 51 => .array .int
  | 52 => .array .int
  | 53 => .long
  | _ => .array .boolean
theorem nmX10 : ∀ a, a < 55 → ∀ b, b < 55 → a ≠ b → (TX10 a).2.1 ≠ (TX10 b).2.1 := by decide +kernel
theorem tyX10_ok : ∀ k, k < 55 → parseFieldDescriptor (TX10 k).2.2.1 = some (tyX10 k) := by decide +kernel
abbrev cX10_init : ByteArray := prog_12_method_1_code
def yX10_init : MethodName := ⟨RX10, "<init>", "()V"⟩
abbrev cX10_thrown : ByteArray := prog_12_method_2_code
def yX10_thrown : MethodName := ⟨RX10, "thrown", "()I"⟩
abbrev cX10_within : ByteArray := prog_12_method_3_code
def yX10_within : MethodName := ⟨RX10, "within", "(III)Z"⟩
abbrev cX10_gcd : ByteArray := prog_12_method_4_code
def yX10_gcd : MethodName := ⟨RX10, "gcd", "(JJ)J"⟩
abbrev cX10_feed : ByteArray := prog_12_method_5_code
def yX10_feed : MethodName := ⟨RX10, "feed", "(JJJ)I"⟩
abbrev cX10_signAt : ByteArray := prog_12_method_6_code
def yX10_signAt : MethodName := ⟨RX10, "signAt", "(I)I"⟩
abbrev cX10_nextToken : ByteArray := prog_12_method_7_code
def yX10_nextToken : MethodName := ⟨RX10, "nextToken", "()V"⟩
abbrev cX10_isWord : ByteArray := prog_12_method_8_code
def yX10_isWord : MethodName := ⟨RX10, "isWord", "(J)Z"⟩
abbrev cX10_isSign : ByteArray := prog_12_method_9_code
def yX10_isSign : MethodName := ⟨RX10, "isSign", "(I)Z"⟩
abbrev cX10_fails : ByteArray := prog_12_method_10_code
def yX10_fails : MethodName := ⟨RX10, "fails", "(I)Z"⟩
abbrev cX10_starts0 : ByteArray := prog_12_method_11_code
def yX10_starts0 : MethodName := ⟨RX10, "starts0", "(I)V"⟩
abbrev cX10_puts : ByteArray := prog_12_method_12_code
def yX10_puts : MethodName := ⟨RX10, "puts", "(I)V"⟩
abbrev cX10_fact : ByteArray := prog_12_method_13_code
def yX10_fact : MethodName := ⟨RX10, "fact", "()I"⟩
abbrev cX10_reads : ByteArray := prog_12_method_14_code
def yX10_reads : MethodName := ⟨RX10, "reads", "()Z"⟩
abbrev cX10_opens : ByteArray := prog_12_method_15_code
def yX10_opens : MethodName := ⟨RX10, "opens", "(I)V"⟩
abbrev cX10_sums : ByteArray := prog_12_method_16_code
def yX10_sums : MethodName := ⟨RX10, "sums", "(I)V"⟩
abbrev cX10_tests : ByteArray := prog_12_method_17_code
def yX10_tests : MethodName := ⟨RX10, "tests", "(I)V"⟩
abbrev cX10_worked : ByteArray := prog_12_method_18_code
def yX10_worked : MethodName := ⟨RX10, "worked", "(I)I"⟩
abbrev cX10_isKept : ByteArray := prog_12_method_19_code
def yX10_isKept : MethodName := ⟨RX10, "isKept", "()Z"⟩
abbrev cX10_needsNumber : ByteArray := prog_12_method_20_code
def yX10_needsNumber : MethodName := ⟨RX10, "needsNumber", "(II)Z"⟩
abbrev cX10_needsWord : ByteArray := prog_12_method_21_code
def yX10_needsWord : MethodName := ⟨RX10, "needsWord", "(J)Z"⟩
abbrev cX10_ends : ByteArray := prog_12_method_22_code
def yX10_ends : MethodName := ⟨RX10, "ends", "()Z"⟩
abbrev cX10_readsOne : ByteArray := prog_12_method_23_code
def yX10_readsOne : MethodName := ⟨RX10, "readsOne", "(III)Z"⟩
abbrev cX10_readsSide : ByteArray := prog_12_method_24_code
def yX10_readsSide : MethodName := ⟨RX10, "readsSide", "()Z"⟩
abbrev cX10_readsLaw : ByteArray := prog_12_method_25_code
def yX10_readsLaw : MethodName := ⟨RX10, "readsLaw", "()Z"⟩
abbrev cX10_kindAt : ByteArray := prog_12_method_26_code
def yX10_kindAt : MethodName := ⟨RX10, "kindAt", "()I"⟩
abbrev cX10_choosers : ByteArray := prog_12_method_27_code
def yX10_choosers : MethodName := ⟨RX10, "choosers", "(I)I"⟩
abbrev cX10_readsPerson : ByteArray := prog_12_method_28_code
def yX10_readsPerson : MethodName := ⟨RX10, "readsPerson", "()Z"⟩
abbrev cX10_readsAll : ByteArray := prog_12_method_29_code
def yX10_readsAll : MethodName := ⟨RX10, "readsAll", "()Z"⟩
abbrev cX10_moves : ByteArray := prog_12_method_30_code
def yX10_moves : MethodName := ⟨RX10, "moves", "([IIII)V"⟩
abbrev cX10_lays : ByteArray := prog_12_method_31_code
def yX10_lays : MethodName := ⟨RX10, "lays", "(II)V"⟩
abbrev cX10_river : ByteArray := prog_12_method_32_code
def yX10_river : MethodName := ⟨RX10, "river", "()I"⟩
abbrev cX10_isPerson : ByteArray := prog_12_method_33_code
def yX10_isPerson : MethodName := ⟨RX10, "isPerson", "(I)Z"⟩
abbrev cX10_isMinute : ByteArray := prog_12_method_34_code
def yX10_isMinute : MethodName := ⟨RX10, "isMinute", "(I)Z"⟩
abbrev cX10_countOf : ByteArray := prog_12_method_35_code
def yX10_countOf : MethodName := ⟨RX10, "countOf", "(I)I"⟩
abbrev cX10_person : ByteArray := prog_12_method_36_code
def yX10_person : MethodName := ⟨RX10, "person", "(II)I"⟩
abbrev cX10_use : ByteArray := prog_12_method_37_code
def yX10_use : MethodName := ⟨RX10, "use", "(I)Z"⟩
abbrev cX10_joins : ByteArray := prog_12_method_38_code
def yX10_joins : MethodName := ⟨RX10, "joins", "(IIIII)V"⟩
abbrev cX10_dawns : ByteArray := prog_12_method_39_code
def yX10_dawns : MethodName := ⟨RX10, "dawns", "()V"⟩
abbrev cX10_tellsAll : ByteArray := prog_12_method_40_code
def yX10_tellsAll : MethodName := ⟨RX10, "tellsAll", "(I)V"⟩
abbrev cX10_isWaiting : ByteArray := prog_12_method_41_code
def yX10_isWaiting : MethodName := ⟨RX10, "isWaiting", "(II)Z"⟩
abbrev cX10_wouldRing : ByteArray := prog_12_method_42_code
def yX10_wouldRing : MethodName := ⟨RX10, "wouldRing", "(I)Z"⟩
abbrev cX10_firstOf : ByteArray := prog_12_method_43_code
def yX10_firstOf : MethodName := ⟨RX10, "firstOf", "(II)I"⟩
abbrev cX10_leaves : ByteArray := prog_12_method_44_code
def yX10_leaves : MethodName := ⟨RX10, "leaves", "(II)I"⟩
abbrev cX10_ringsOnce : ByteArray := prog_12_method_45_code
def yX10_ringsOnce : MethodName := ⟨RX10, "ringsOnce", "(I)V"⟩
abbrev cX10_goesOn : ByteArray := prog_12_method_46_code
def yX10_goesOn : MethodName := ⟨RX10, "goesOn", "(II)V"⟩
abbrev cX10_day : ByteArray := prog_12_method_47_code
def yX10_day : MethodName := ⟨RX10, "day", "(I)V"⟩
abbrev cX10_waitOf : ByteArray := prog_12_method_48_code
def yX10_waitOf : MethodName := ⟨RX10, "waitOf", "(I)I"⟩
abbrev cX10_costAll : ByteArray := prog_12_method_49_code
def yX10_costAll : MethodName := ⟨RX10, "costAll", "(I)I"⟩
abbrev cX10_rings : ByteArray := prog_12_method_50_code
def yX10_rings : MethodName := ⟨RX10, "rings", "()I"⟩
abbrev cX10_ring : ByteArray := prog_12_method_51_code
def yX10_ring : MethodName := ⟨RX10, "ring", "(II)I"⟩
abbrev cX10_waits : ByteArray := prog_12_method_52_code
def yX10_waits : MethodName := ⟨RX10, "waits", "(II)I"⟩
abbrev cX10_all : ByteArray := prog_12_method_53_code
def yX10_all : MethodName := ⟨RX10, "all", "(I)I"⟩
abbrev cX10_waitsBehind : ByteArray := prog_12_method_54_code
def yX10_waitsBehind : MethodName := ⟨RX10, "waitsBehind", "(II)Z"⟩
abbrev cX10_bank : ByteArray := prog_12_method_55_code
def yX10_bank : MethodName := ⟨RX10, "bank", "(III)I"⟩
abbrev cX10_ringsBy : ByteArray := prog_12_method_56_code
def yX10_ringsBy : MethodName := ⟨RX10, "ringsBy", "(III)Z"⟩
abbrev cX10_send : ByteArray := prog_12_method_57_code
def yX10_send : MethodName := ⟨RX10, "send", "(II)I"⟩
abbrev cX10_canTurn : ByteArray := prog_12_method_58_code
def yX10_canTurn : MethodName := ⟨RX10, "canTurn", "(II)Z"⟩
abbrev cX10_turns : ByteArray := prog_12_method_59_code
def yX10_turns : MethodName := ⟨RX10, "turns", "(II)I"⟩
abbrev cX10_turn : ByteArray := prog_12_method_60_code
def yX10_turn : MethodName := ⟨RX10, "turn", "(II)I"⟩
abbrev cX10_asks : ByteArray := prog_12_method_61_code
def yX10_asks : MethodName := ⟨RX10, "asks", "(I)I"⟩
abbrev cX10_choices : ByteArray := prog_12_method_62_code
def yX10_choices : MethodName := ⟨RX10, "choices", "()I"⟩
abbrev cX10_choice : ByteArray := prog_12_method_63_code
def yX10_choice : MethodName := ⟨RX10, "choice", "(I)I"⟩
abbrev cX10_chosen : ByteArray := prog_12_method_64_code
def yX10_chosen : MethodName := ⟨RX10, "chosen", "(I)I"⟩
abbrev cX10_isRest : ByteArray := prog_12_method_65_code
def yX10_isRest : MethodName := ⟨RX10, "isRest", "(I)Z"⟩
abbrev cX10_rests : ByteArray := prog_12_method_66_code
def yX10_rests : MethodName := ⟨RX10, "rests", "()I"⟩
abbrev cX10_rest : ByteArray := prog_12_method_67_code
def yX10_rest : MethodName := ⟨RX10, "rest", "(I)I"⟩
abbrev cX10_tell : ByteArray := prog_12_method_68_code
def yX10_tell : MethodName := ⟨RX10, "tell", "(I)I"⟩
abbrev cX10_clear : ByteArray := prog_12_method_69_code
def yX10_clear : MethodName := ⟨RX10, "clear", "()Z"⟩
abbrev cX10_judged : ByteArray := prog_12_method_70_code
def yX10_judged : MethodName := ⟨RX10, "judged", "(I)I"⟩
abbrev cX10_firsts : ByteArray := prog_12_method_71_code
def yX10_firsts : MethodName := ⟨RX10, "firsts", "(I)J"⟩
abbrev cX10_chance : ByteArray := prog_12_method_72_code
def yX10_chance : MethodName := ⟨RX10, "chance", "(I)J"⟩
abbrev cX10_likely : ByteArray := prog_12_method_73_code
def yX10_likely : MethodName := ⟨RX10, "likely", "(II)J"⟩
abbrev cX10_mean : ByteArray := prog_12_method_74_code
def yX10_mean : MethodName := ⟨RX10, "mean", "(II)J"⟩
abbrev cX10_came : ByteArray := prog_12_method_75_code
def yX10_came : MethodName := ⟨RX10, "came", "(I)J"⟩
abbrev cX10_draws : ByteArray := prog_12_method_76_code
def yX10_draws : MethodName := ⟨RX10, "draws", "(I)I"⟩
abbrev cX10_lots : ByteArray := prog_12_method_77_code
def yX10_lots : MethodName := ⟨RX10, "lots", "(III)I"⟩
abbrev cX10_best : ByteArray := prog_12_method_78_code
def yX10_best : MethodName := ⟨RX10, "best", "()I"⟩
abbrev cX10_mark : ByteArray := prog_12_method_79_code
def yX10_mark : MethodName := ⟨RX10, "mark", "(IZ)Z"⟩
abbrev cX10_count : ByteArray := prog_12_method_80_code
def yX10_count : MethodName := ⟨RX10, "count", "(I)I"⟩
def RJx145de : String := "java/io/Serializable"
def RJx9f9b0 : String := "java/lang/CharSequence"
def RJ11 : String := "java/lang/Character"
abbrev cJ11_isValidCodePoint_9a6ad : ByteArray := prog_15_method_11_code
def yJ11_isValidCodePoint_9a6ad : MethodName := ⟨RJ11, "isValidCodePoint", "(I)Z"⟩
abbrev cJ11_highSurrogate_5068e : ByteArray := prog_15_method_28_code
def yJ11_highSurrogate_5068e : MethodName := ⟨RJ11, "highSurrogate", "(I)C"⟩
abbrev cJ11_lowSurrogate_5068e : ByteArray := prog_15_method_29_code
def yJ11_lowSurrogate_5068e : MethodName := ⟨RJ11, "lowSurrogate", "(I)C"⟩
def RJx8e188 : String := "java/lang/Cloneable"
def RJxb160c : String := "java/lang/Comparable"
def RJ9 : String := "java/lang/Math"
abbrev cJ9_max_7cf53 : ByteArray := prog_19_method_65_code
def yJ9_max_7cf53 : MethodName := ⟨RJ9, "max", "(II)I"⟩
abbrev cJ9_min_7cf53 : ByteArray := prog_19_method_69_code
def yJ9_min_7cf53 : MethodName := ⟨RJ9, "min", "(II)I"⟩
def RJ0 : String := "java/lang/String"
abbrev cJ0_length_8abf5 : ByteArray := prog_21_method_54_code
def yJ0_length_8abf5 : MethodName := ⟨RJ0, "length", "()I"⟩
abbrev cJ0_charAt_5068e : ByteArray := prog_21_method_56_code
def yJ0_charAt_5068e : MethodName := ⟨RJ0, "charAt", "(I)C"⟩
abbrev cJ0_indexOf_0f7a4 : ByteArray := prog_21_method_79_code
def yJ0_indexOf_0f7a4 : MethodName := ⟨RJ0, "indexOf", "(I)I"⟩
abbrev cJ0_indexOf_7cf53 : ByteArray := prog_21_method_80_code
def yJ0_indexOf_7cf53 : MethodName := ⟨RJ0, "indexOf", "(II)I"⟩
abbrev cJ0_coder_7d493 : ByteArray := prog_21_method_152_code
def yJ0_coder_7d493 : MethodName := ⟨RJ0, "coder", "()B"⟩
abbrev cJ0_isLatin1_aae02 : ByteArray := prog_21_method_154_code
def yJ0_isLatin1_aae02 : MethodName := ⟨RJ0, "isLatin1", "()Z"⟩
abbrev cJ0_checkIndex_df160 : ByteArray := prog_21_method_155_code
def yJ0_checkIndex_df160 : MethodName := ⟨RJ0, "checkIndex", "(II)V"⟩
abbrev cJ0_checkBoundsBeginEnd_23922 : ByteArray := prog_21_method_158_code
def yJ0_checkBoundsBeginEnd_23922 : MethodName := ⟨RJ0, "checkBoundsBeginEnd", "(III)V"⟩
def RJ1 : String := "java/lang/StringLatin1"
abbrev cJ1_charAt_3b067 : ByteArray := prog_22_method_2_code
def yJ1_charAt_3b067 : MethodName := ⟨RJ1, "charAt", "([BI)C"⟩
abbrev cJ1_canEncode_9a6ad : ByteArray := prog_22_method_4_code
def yJ1_canEncode_9a6ad : MethodName := ⟨RJ1, "canEncode", "(I)Z"⟩
abbrev cJ1_indexOf_4cfef : ByteArray := prog_22_method_22_code
def yJ1_indexOf_4cfef : MethodName := ⟨RJ1, "indexOf", "([BIII)I"⟩
abbrev cJ1_indexOfChar_4cfef : ByteArray := prog_22_method_23_code
def yJ1_indexOfChar_4cfef : MethodName := ⟨RJ1, "indexOfChar", "([BIII)I"⟩
def RJ2 : String := "java/lang/StringUTF16"
abbrev cJ2_getChar_3b067 : ByteArray := prog_23_method_5_code
def yJ2_getChar_3b067 : MethodName := ⟨RJ2, "getChar", "([BI)C"⟩
abbrev cJ2_length_9d52b : ByteArray := prog_23_method_6_code
def yJ2_length_9d52b : MethodName := ⟨RJ2, "length", "([B)I"⟩
abbrev cJ2_indexOf_4cfef : ByteArray := prog_23_method_40_code
def yJ2_indexOf_4cfef : MethodName := ⟨RJ2, "indexOf", "([BIII)I"⟩
abbrev cJ2_indexOfChar_4cfef : ByteArray := prog_23_method_47_code
def yJ2_indexOfChar_4cfef : MethodName := ⟨RJ2, "indexOfChar", "([BIII)I"⟩
abbrev cJ2_indexOfCharUnsafe_4cfef : ByteArray := prog_23_method_48_code
def yJ2_indexOfCharUnsafe_4cfef : MethodName := ⟨RJ2, "indexOfCharUnsafe", "([BIII)I"⟩
abbrev cJ2_indexOfSupplementary_4cfef : ByteArray := prog_23_method_49_code
def yJ2_indexOfSupplementary_4cfef : MethodName := ⟨RJ2, "indexOfSupplementary", "([BIII)I"⟩
abbrev cJ2_charAt_3b067 : ByteArray := prog_23_method_83_code
def yJ2_charAt_3b067 : MethodName := ⟨RJ2, "charAt", "([BI)C"⟩
abbrev cJ2_checkIndex_2214a : ByteArray := prog_23_method_91_code
def yJ2_checkIndex_2214a : MethodName := ⟨RJ2, "checkIndex", "(I[B)V"⟩
abbrev cJ2_checkBoundsBeginEnd_d044e : ByteArray := prog_23_method_93_code
def yJ2_checkBoundsBeginEnd_d044e : MethodName := ⟨RJ2, "checkBoundsBeginEnd", "(II[B)V"⟩
def RJ10 : String := "java/lang/System"
def RJxfd54e : String := "java/lang/constant/Constable"
def RJx3cf43 : String := "java/lang/constant/ConstantDesc"
def RJ7 : String := "java/util/Arrays"
abbrev cJ7_copyOf_59c91 : ByteArray := prog_28_method_123_code
def yJ7_copyOf_59c91 : MethodName := ⟨RJ7, "copyOf", "([II)[I"⟩
def RJ3 : String := "jdk/internal/util/Preconditions"
abbrev cJ3_checkIndex_8e157 : ByteArray := prog_30_method_11_code
def yJ3_checkIndex_8e157 : MethodName := ⟨RJ3, "checkIndex", "(IILjava/util/function/BiFunction;)I"⟩
abbrev cJ3_checkFromToIndex_8c36e : ByteArray := prog_30_method_12_code
def yJ3_checkFromToIndex_8c36e : MethodName := ⟨RJ3, "checkFromToIndex", "(IIILjava/util/function/BiFunction;)I"⟩
def RL : String := "EvenFerryLaw"
abbrev cL_turn : ByteArray := method_3_code
def yL_turn : MethodName := ⟨RL, "turn", "(LEvenFerry;II[J)I"⟩
abbrev cL_law : ByteArray := code
def yL_law : MethodName := ⟨RL, "law", "([I)Z"⟩
abbrev vwCl : List vw_C := [(RX0, TX0, 6), (RX1, TX1, 7), (RX2, TX2, 6), (RX3, TX3, 18), (RX4, TX4, 10), (RX5, TX5, 8), (RX6, TX6, 15), (RX7, TX7, 5), (RX8, TX8, 5), (RX9, TX9, 9), (RX10, TX10, 55)]
end
section
/-! THE PICTURE OF THE HEAP. A cell at an address: its kind (0 .. 10 the claim's classes as in vwCl, 11 char, 12 int, 13 long, 14 boolean, 15 State arrays, others: nothing known), its length, its ints, longs, references (0: null); the heap's size; the slots made. -/
abbrev am_H : Type := (Nat → Nat) × (Nat → Nat) × (Nat → Nat → Int32) × (Nat → Nat → Int64) × (Nat → Nat → Nat) × Nat × Nat
def hK (h : am_H) : Nat → Nat := h.1
def hN (h : am_H) : Nat → Nat := h.2.1
def hI (h : am_H) : Nat → Nat → Int32 := h.2.2.1
def hJ (h : am_H) : Nat → Nat → Int64 := h.2.2.2.1
def hR (h : am_H) : Nat → Nat → Nat := h.2.2.2.2.1
def hZ (h : am_H) : Nat := h.2.2.2.2.2.1
def hS (h : am_H) : Nat := h.2.2.2.2.2.2
def sI (h : am_H) (a k : Nat) (v : Int32) : am_H := (hK h, hN h, va_up (hI h) a (va_up (hI h a) k v), hJ h, hR h, hZ h, hS h)
def sJ (h : am_H) (a k : Nat) (v : Int64) : am_H := (hK h, hN h, hI h, va_up (hJ h) a (va_up (hJ h a) k v), hR h, hZ h, hS h)
def sR (h : am_H) (a k : Nat) (v : Nat) : am_H := (hK h, hN h, hI h, hJ h, va_up (hR h) a (va_up (hR h a) k v), hZ h, hS h)
/-- a new object of class ci with n fields, a new array of kind k and length n -/
def nO (h : am_H) (ci n : Nat) : am_H := (va_up (hK h) (hZ h) ci, hN h, va_up (hI h) (hZ h) (fun _ => 0), va_up (hJ h) (hZ h) (fun _ => 0), va_up (hR h) (hZ h) (fun _ => 0), hZ h + 1, hS h + n)
def nA (h : am_H) (k n : Nat) : am_H := (va_up (hK h) (hZ h) k, va_up (hN h) (hZ h) n, va_up (hI h) (hZ h) (fun _ => 0), va_up (hJ h) (hZ h) (fun _ => 0), va_up (hR h) (hZ h) (fun _ => 0), hZ h + 1, hS h + n)
/-- a reference by its number -/
def am_o (r : Nat) : Value := if r = 0 then .null else .ref r
theorem am_o_ref {r : Nat} (h : r ≠ 0) : am_o r = .ref r := if_neg h
def am_val (h : am_H) (a k t : Nat) : Value := if t = 0 then .int (hI h a k) else if t = 1 then .long (hJ h a k) else am_o (hR h a k)
def am_tc : FieldType → Nat
  | .long => 1
  | .object _ => 2
  | .array _ => 2
  | _ => 0
def am_tyf (ci : Nat) : Nat → FieldType := if ci = 0 then tyX0 else if ci = 1 then tyX1 else if ci = 2 then tyX2 else if ci = 3 then tyX3 else if ci = 4 then tyX4 else if ci = 5 then tyX5 else if ci = 6 then tyX6 else if ci = 7 then tyX7 else if ci = 8 then tyX8 else if ci = 9 then tyX9 else tyX10
def am_ty (ci k : Nat) : Nat := am_tc (am_tyf ci k)
def am_n (ci : Nat) : Nat := if ci = 0 then 6 else if ci = 1 then 7 else if ci = 2 then 6 else if ci = 3 then 18 else if ci = 4 then 10 else if ci = 5 then 8 else if ci = 6 then 15 else if ci = 7 then 5 else if ci = 8 then 5 else if ci = 9 then 9 else 55
def am_et (k : Nat) : Nat := if k = 13 then 1 else if k = 15 then 2 else 0
def am_aty (k : Nat) : FieldType := if k = 11 then .char else if k = 12 then .int else if k = 13 then .long else if k = 14 then .boolean else .object "EvenFerry$State"
/-- the constants of a run: classes and slots, array classes by their kinds, the first own address, the heap at the start, what else the tables say -/
abbrev am_W : Type := va_G × (Nat → ClassId) × Nat × Heap × (State → Prop)
def am_at (w : am_W) (h : am_H) (H : Heap) (a : Nat) : Prop :=
  if hK h a < 11 then t_OB a (w.1.1 (hK h a)) (am_n (hK h a)) (w.1.2 (hK h a)) H (fun k => am_val h a k (am_ty (hK h a) k))
  else H[a]? = some (arrV (w.2.1 (hK h a)) (hN h a) (fun j => am_val h a j (am_et (hK h a))))
def am_R (w : am_W) (h : am_H) (H : Heap) : Prop := H.size = hZ h ∧ w.2.2.2.1.size = w.2.2.1 ∧ 0 < w.2.2.1 ∧ w.2.2.1 ≤ hZ h ∧ (∀ a : Nat, a < w.2.2.1 → H[a]? = w.2.2.2.1[a]?) ∧ ∀ a, hK h a < 16 → w.2.2.1 ≤ a ∧ am_at w h H a
theorem am_at.lt {w : am_W} {h : am_H} {H : Heap} {a : Nat} (q : am_at w h H a) : a < H.size := by
  unfold am_at at q
  split at q
  · obtain ⟨cell, q1, -⟩ := q
    exact (Array.getElem?_eq_some_iff.mp q1).1
  · exact (Array.getElem?_eq_some_iff.mp q).1
theorem am_at.kept {w : am_W} {h h1 : am_H} {H H1 : Heap} {a : Nat} (q : am_at w h H a) (e : H1[a]? = H[a]?) (k : hK h1 a = hK h a) (n : hN h1 a = hN h a) (v : ∀ j t, am_val h1 a j t = am_val h a j t) : am_at w h1 H1 a := by
  unfold am_at at q ⊢
  rw [k, n]
  split at q
  · rename_i hc
    rw [if_pos hc]
    exact (q.kept e).to (fun j _ => (v j _).symm)
  · rename_i hc
    rw [if_neg hc, e, q]
    congr 2
    funext j
    exact (v j _).symm
/-- a value put at a place -/
def am_set (h : am_H) (a k : Nat) (v : Value) : am_H := match v with
  | .int x => sI h a k x
  | .long x => sJ h a k x
  | .ref r => sR h a k r
  | .null => sR h a k 0
  | _ => h
/-- a value of a type code -/
def am_is (v : Value) (t : Nat) : Prop := match v with
  | .int _ => t = 0
  | .long _ => t = 1
  | .ref r => t = 2 ∧ r ≠ 0
  | .null => t = 2
  | _ => False
theorem am_set_K (h : am_H) (a k : Nat) (v : Value) : hK (am_set h a k v) = hK h := by cases v <;> rfl
theorem am_set_N (h : am_H) (a k : Nat) (v : Value) : hN (am_set h a k v) = hN h := by cases v <;> rfl
theorem am_set_Z (h : am_H) (a k : Nat) (v : Value) : hZ (am_set h a k v) = hZ h := by cases v <;> rfl
theorem am_set_S (h : am_H) (a k : Nat) (v : Value) : hS (am_set h a k v) = hS h := by cases v <;> rfl
theorem am_u2 {α : Type} (f : Nat → Nat → α) (a k : Nat) (v : α) (b j : Nat) (h : b ≠ a ∨ j ≠ k) : va_up f a (va_up (f a) k v) b j = f b j := by
  by_cases hb : b = a
  · subst hb
    rw [va_up_self, va_up_ne _ _ (h.resolve_left (fun q => q rfl))]
  · rw [va_up_ne _ _ hb]
theorem am_set_ne {h : am_H} {a k : Nat} {v : Value} {b j : Nat} (t : Nat) (q : b ≠ a ∨ j ≠ k) : am_val (am_set h a k v) b j t = am_val h b j t := by
  cases v <;> first | rfl | (simp only [am_val, am_set, sI, sJ, sR, hI, hJ, hR]; rw [am_u2 _ _ _ _ _ _ q])
theorem am_set_eq {h : am_H} {a k : Nat} {v : Value} {t : Nat} (q : am_is v t) : am_val (am_set h a k v) a k t = v := by
  cases v with
  | int x => cases q; simp [am_val, am_set, sI, hI, va_up_self]
  | long x => cases q; simp [am_val, am_set, sJ, hJ, va_up_self]
  | ref r => obtain ⟨rfl, hr⟩ := q; simp [am_val, am_set, sR, hR, va_up_self, am_o, hr]
  | null => cases q; simp [am_val, am_set, sR, hR, va_up_self, am_o]
  | _ => exact absurd q id
theorem am_R.put {w : am_W} {h h1 : am_H} {H H1 : Heap} {a : Nat} (q : am_R w h H) (hz : H1.size = H.size) (ho : ∀ b : Nat, b ≠ a → H1[b]? = H[b]?) (ha : hK h a < 16) (z1 : hZ h1 = hZ h) (k1 : hK h1 = hK h) (n1 : hN h1 = hN h) (v1 : ∀ b j t, b ≠ a → am_val h1 b j t = am_val h b j t) (h1a : am_at w h1 H1 a) : am_R w h1 H1 := by
  obtain ⟨q1, q2, q3, q4, q5, q6⟩ := q
  refine ⟨by rw [hz, q1, z1], q2, q3, by rw [z1]; exact q4, fun b hb => ?_, fun b hb => ?_⟩
  · have hne : b ≠ a := fun e => by have := (q6 a ha).1; omega
    rw [ho b hne, q5 b hb]
  · rw [k1] at hb
    by_cases e : b = a
    · subst e
      exact ⟨(q6 b hb).1, h1a⟩
    · exact ⟨(q6 b hb).1, (q6 b hb).2.kept (ho b e) (by rw [k1]) (by rw [n1]) (fun j t => v1 b j t e)⟩
end
section
/-! Ev: from a point of a method the machine comes to its end: the answer and the picture then are such that Q. -/
/-- a method: its name, code, locals, kind of answer -/
abbrev am_M : Type := MethodName × ByteArray × Nat × Option FieldType
abbrev am_Zt : Type := Option Value → am_H → Nat → Nat → List Frame → Array Value → State → State → Prop
def am_big : List Cond := lw_tbl.filter goodWord
theorem in_big {w : Cond} (i : Nat) (h : lw_tbl[i]? = some w) (g : goodWord w = true) : w ∈ am_big := List.mem_filter.mpr ⟨List.mem_of_getElem? h, g⟩
theorem am_big_good {w : Cond} (h : w ∈ am_big) : (w.onTables && w.keeps) = true ∨ ∃ ty, w = .arrayClass ty := good_of_word (List.mem_filter.mp h).2
def am_isN : Cond → Bool
  | .methodLinkNest _ _ _ _ => true
  | _ => false
def am_nest : List Cond := tables_1.filter am_isN
theorem in_nest {w : Cond} (i : Nat) (h : tables_1[i]? = some w) (g : am_isN w = true) : w ∈ am_nest := List.mem_filter.mpr ⟨List.mem_of_getElem? h, g⟩
def am_tys (w : am_W) : List (ClassId × FieldType) := [(w.2.1 11, .char), (w.2.1 12, .int), (w.2.1 13, .long), (w.2.1 14, .boolean), (w.2.1 15, .object "EvenFerry$State")]
def am_Kw (w : am_W) (s : State) : Prop := va_K w.1 vwCl (am_tys w) s ∧ (∀ x ∈ am_nest, va_Nw x s) ∧ w.2.2.2.2 s ∧ (∀ s U : State, s.WarmedH U.vm → w.2.2.2.2 s → w.2.2.2.2 U) ∧ ∀ (U : State) (g : JFrame) (mk : MethodId) (a : Array Value), w.2.2.2.2 U → w.2.2.2.2 (U.calling g mk a)
theorem am_Kw.warm {w : am_W} {s U : State} (hW : s.WarmedH U.vm) (h : am_Kw w s) : am_Kw w U := by
  refine ⟨va_K.moved hW.alike h.1, fun x hx => ?_, h.2.2.2.1 s U hW h.2.2.1, h.2.2.2⟩
  have h1 := h.2.1 x hx
  have h2 := (List.mem_filter.mp hx).2
  cases x <;> first | exact va_Nw.warmM hW h1 | exact absurd h2 (by simp [am_isN])
theorem am_Kw.calling {w : am_W} {U : State} {g : JFrame} {mk : MethodId} {a : Array Value} (h : am_Kw w U) : am_Kw w (U.calling g mk a) := by
  refine ⟨va_K.moved (u := U) (U := U.calling g mk a) (Vm.Alike.refl U.vm) h.1, fun x hx => ?_, h.2.2.2.2 U g mk a h.2.2.1, h.2.2.2⟩
  have h1 := h.2.1 x hx
  have h2 := (List.mem_filter.mp hx).2
  cases x <;> first | exact va_Nw.same (u := U) (U := U.calling g mk a) rfl rfl h1 | exact absurd h2 (by simp [am_isN])
/-- what holds in a method's body -/
def am_C (w : am_W) (u : am_M) (d : Nat) (p : Program) (l : Launch) (R : Room) (s : State) (m : MethodId) (args : Array Value) (meth : Method) (c : Code) (mc ms : Nat) : Prop :=
  p.tables.exec = Jvm.exec ∧ c.code = u.2.1 ∧ meth.sig.returnType = u.2.2.2 ∧ meth.locks = false ∧ c.maxLocals = u.2.2.1 ∧ s.vm.findClass u.1.cls = some m.cls ∧ meth.name = u.1.name ∧ (∀ x ∈ am_big, x.before args s = true) ∧ am_Kw w s ∧ d ≤ R.frames ∧ 100 * d ≤ R.locals ∧ mc ≤ R.cells ∧ ms ≤ R.slots ∧ l.stackTraces = false
def Ev (w : am_W) (Z : am_Zt) (u : am_M) (d : Nat) (pc : Nat) (lv : List (Nat × Value)) (st : List Value) (h : am_H) (Q : Option Value → am_H → Prop) : Prop :=
  ∃ (r : Option Value) (h' : am_H), Q r h' ∧ hZ h ≤ hZ h' ∧ hS h ≤ hS h' ∧ ∀ (p : Program) (l : Launch) (e : Env) (R : Room) (s : State) (m : MethodId) (args : Array Value) (below : List Frame) (meth : Method) (c : Code) (mc ms : Nat), am_C w u d p l R s m args meth c mc ms →
    ∀ (H : Heap) (locs : List Loc) (cells slots : Nat) (ls : Array Slot), am_R w h H → lv_has ls u.2.2.1 lv → (∀ q ∈ locs, w.2.2.1 ≤ q.base) → cells + (hZ h' - hZ h) = mc → slots + (hS h' - hS h) = ms →
      W p l e R s m args below meth c H locs cells slots (Z r h' mc ms below args s) (F0 m pc ls st)
/-- an ordinary method's end -/
def am_Z (w : am_W) : am_Zt := fun r h' mc ms below args s => MQ below (fun _ _ o t => o = .returned r ∧ am_R w h' t.heap) args s mc ms (fun q => w.2.2.1 ≤ q)
/-- a whole call of a method -/
def EvM (w : am_W) (u : am_M) (d : Nat) (As : List Value) (h : am_H) (Q : Option Value → am_H → Prop) : Prop := Ev w (am_Z w) u d 0 (lv_args 0 As) [] h Q
section EV
variable {w : am_W} {Z : am_Zt} {u : am_M} {d pc pc' : Nat} {lv lv' : List (Nat × Value)} {st st' : List Value} {h h1 : am_H} {Q Q' : Option Value → am_H → Prop}
theorem Ev.mono (k : Ev w Z u d pc lv st h Q) (hQ : ∀ r h', Q r h' → Q' r h') : Ev w Z u d pc lv st h Q' := by
  obtain ⟨r, h', q, z, s', g⟩ := k
  exact ⟨r, h', hQ _ _ q, z, s', g⟩
theorem Ev.go (f : ∀ {p : Program} {l : Launch} {e : Env} {R : Room} {s : State} {m : MethodId} {args : Array Value} {below : List Frame} {meth : Method} {c : Code} {mc ms : Nat}, am_C w u d p l R s m args meth c mc ms → ∀ {H : Heap} {locs : List Loc} {cells slots : Nat} {ls : Array Slot} {QQ : State → Prop}, am_R w h H → lv_has ls u.2.2.1 lv → (∀ ls', lv_has ls' u.2.2.1 lv' → W p l e R s m args below meth c H locs cells slots QQ (F0 m pc' ls' st')) → W p l e R s m args below meth c H locs cells slots QQ (F0 m pc ls st))
    (k : Ev w Z u d pc' lv' st' h Q) : Ev w Z u d pc lv st h Q := by
  obtain ⟨r, h', q, z, s', g⟩ := k
  exact ⟨r, h', q, z, s', fun p l e R s m args below meth c mc ms C H locs cells slots ls hR hl hf hc hs => f C hR hl (fun ls' hl' => g p l e R s m args below meth c mc ms C H locs cells slots ls' hR hl' hf hc hs)⟩
/-- the locals stay -/
theorem Ev.go1 (f : ∀ {p : Program} {l : Launch} {e : Env} {R : Room} {s : State} {m : MethodId} {args : Array Value} {below : List Frame} {meth : Method} {c : Code} {mc ms : Nat}, am_C w u d p l R s m args meth c mc ms → ∀ {H : Heap} {locs : List Loc} {cells slots : Nat} {ls : Array Slot} {QQ : State → Prop}, am_R w h H → lv_has ls u.2.2.1 lv → W p l e R s m args below meth c H locs cells slots QQ (F0 m pc' ls st') → W p l e R s m args below meth c H locs cells slots QQ (F0 m pc ls st))
    (k : Ev w Z u d pc' lv st' h Q) : Ev w Z u d pc lv st h Q := Ev.go (lv' := lv) (fun C _ _ _ _ _ _ hR hl kk => f C hR hl (kk _ hl)) k
/-- fewer locals are known -/
theorem Ev.sub (ks : List Nat) (e : lv_pick lv ks = lv') (k : Ev w Z u d pc lv' st h Q) : Ev w Z u d pc lv st h Q := Ev.go (fun C _ _ _ _ _ _ hR hl kk => kk _ (lv_sub hl ks e)) k
/-- something is written -/
theorem Ev.goH (z1 : hZ h1 = hZ h) (s1 : hS h1 = hS h) (f : ∀ {p : Program} {l : Launch} {e : Env} {R : Room} {s : State} {m : MethodId} {args : Array Value} {below : List Frame} {meth : Method} {c : Code} {mc ms : Nat}, am_C w u d p l R s m args meth c mc ms → ∀ {H : Heap} {locs : List Loc} {cells slots : Nat} {ls : Array Slot} {QQ : State → Prop}, am_R w h H → lv_has ls u.2.2.1 lv → (∀ (H1 : Heap) (L : List Loc), am_R w h1 H1 → (∀ q ∈ L, w.2.2.1 ≤ q.base) → W p l e R s m args below meth c H1 (locs ++ L) cells slots QQ (F0 m pc' ls st')) → W p l e R s m args below meth c H locs cells slots QQ (F0 m pc ls st))
    (k : Ev w Z u d pc' lv st' h1 Q) : Ev w Z u d pc lv st h Q := by
  obtain ⟨r, h', q, z, s', g⟩ := k
  refine ⟨r, h', q, by omega, by omega, fun p l e R s m args below meth c mc ms C H locs cells slots ls hR hl hf hc hs => f C hR hl (fun H1 L hR1 hL => g p l e R s m args below meth c mc ms C H1 (locs ++ L) cells slots ls hR1 hl (fun q hq => ?_) (by omega) (by omega))⟩
  rcases List.mem_append.mp hq with hq | hq
  · exact hf q hq
  · exact hL q hq
/-- something is made -/
theorem Ev.goN {n : Nat} (z1 : hZ h1 = hZ h + 1) (s1 : hS h1 = hS h + n) (f : ∀ {p : Program} {l : Launch} {e : Env} {R : Room} {s : State} {m : MethodId} {args : Array Value} {below : List Frame} {meth : Method} {c : Code} {mc ms : Nat}, am_C w u d p l R s m args meth c mc ms → ∀ {H : Heap} {locs : List Loc} {cells slots : Nat} {ls : Array Slot} {QQ : State → Prop}, cells + 1 ≤ R.cells → slots + n ≤ R.slots → am_R w h H → lv_has ls u.2.2.1 lv → (∀ (H1 : Heap), am_R w h1 H1 → W p l e R s m args below meth c H1 locs (cells + 1) (slots + n) QQ (F0 m pc' ls st')) → W p l e R s m args below meth c H locs cells slots QQ (F0 m pc ls st))
    (k : Ev w Z u d pc' lv st' h1 Q) : Ev w Z u d pc lv st h Q := by
  obtain ⟨r, h', q, z, s', g⟩ := k
  refine ⟨r, h', q, by omega, by omega, fun p l e R s m args below meth c mc ms C H locs cells slots ls hR hl hf hc hs => ?_⟩
  obtain ⟨-, -, -, -, -, -, -, -, -, -, -, hmc, hms, -⟩ := id C
  exact f C (by omega) (by omega) hR hl (fun H1 hR1 => g p l e R s m args below meth c mc ms C H1 locs (cells + 1) (slots + n) ls hR1 hl hf (by omega) (by omega))
end EV
end
section
/-! The instructions over the picture. -/
section INS
variable {w : am_W} {Z : am_Zt} {u : am_M} {d pc : Nat} {lv lv' : List (Nat × Value)} {st : List Value} {h : am_H} {Q : Option Value → am_H → Prop}
theorem Ev.iconst {n : Int} {v : Int32} (hd : decode u.2.1 pc = .ok (.iconst n, 1)) (hv : Int32.ofInt n = v) (k : Ev w Z u d (pc + 1) lv (.int v :: st) h Q) : Ev w Z u d pc lv st h Q := Ev.go1 (fun C _ _ _ _ _ _ _ _ k => lv_iconst C.1 C.2.1 hd hv k) k
theorem Ev.bipush {n : Int} {v : Int32} (hd : decode u.2.1 pc = .ok (.bipush n, 2)) (hv : (Int8.ofInt n).toInt32 = v) (k : Ev w Z u d (pc + 2) lv (.int v :: st) h Q) : Ev w Z u d pc lv st h Q := Ev.go1 (fun C _ _ _ _ _ _ _ _ k => lv_bipush C.1 C.2.1 hd hv k) k
theorem Ev.sipush {n : Int} {v : Int32} (hd : decode u.2.1 pc = .ok (.sipush n, 3)) (hv : (Int16.ofInt n).toInt32 = v) (k : Ev w Z u d (pc + 3) lv (.int v :: st) h Q) : Ev w Z u d pc lv st h Q := Ev.go1 (fun C _ _ _ _ _ _ _ _ k => lv_sipush C.1 C.2.1 hd hv k) k
theorem Ev.lconst {n : Fin 2} {v : Int64} (hd : decode u.2.1 pc = .ok (.lconst n, 1)) (hv : Int64.ofNat n = v) (k : Ev w Z u d (pc + 1) lv (.long v :: st) h Q) : Ev w Z u d pc lv st h Q := Ev.go1 (fun C _ _ _ _ _ _ _ _ k => lv_lconst C.1 C.2.1 hd hv k) k
theorem Ev.iload_n {q : Fin 4} {i : Nat} {x : Int32} (j : Nat) (hd : decode u.2.1 pc = .ok (.iload_n q, 1)) (hi : (q : Nat) = i) (hj : lv[j]? = some (i, .int x)) (k : Ev w Z u d (pc + 1) lv (.int x :: st) h Q) : Ev w Z u d pc lv st h Q := Ev.go1 (fun C _ _ _ _ _ _ _ hl k => lv_iload_n C.1 C.2.1 hd hi (lv_at hl j hj) k) k
theorem Ev.iload {i : Nat} {x : Int32} (j : Nat) (hd : decode u.2.1 pc = .ok (.iload i, 2)) (hj : lv[j]? = some (i, .int x)) (k : Ev w Z u d (pc + 2) lv (.int x :: st) h Q) : Ev w Z u d pc lv st h Q := Ev.go1 (fun C _ _ _ _ _ _ _ hl k => lv_iload C.1 C.2.1 hd (lv_at hl j hj) k) k
theorem Ev.istore_n {q : Fin 4} {i : Nat} {x : Int32} (hd : decode u.2.1 pc = .ok (.istore_n q, 1)) (hi : (q : Nat) = i) (hn : i < u.2.2.1) (hl : (i, Value.int x) :: lv.filter (fun q => !(q.1 == i) && !(q.1 + 1 == i && q.2.category == 2)) = lv') (k : Ev w Z u d (pc + 1) lv' st h Q) : Ev w Z u d pc lv (.int x :: st) h Q := Ev.go (fun C _ _ _ _ _ _ _ hl0 k => lv_istore_n C.1 C.2.1 hd hi hl0 hn hl k) k
theorem Ev.istore {i : Nat} {x : Int32} (hd : decode u.2.1 pc = .ok (.istore i, 2)) (hn : i < u.2.2.1) (hl : (i, Value.int x) :: lv.filter (fun q => !(q.1 == i) && !(q.1 + 1 == i && q.2.category == 2)) = lv') (k : Ev w Z u d (pc + 2) lv' st h Q) : Ev w Z u d pc lv (.int x :: st) h Q := Ev.go (fun C _ _ _ _ _ _ _ hl0 k => lv_istore C.1 C.2.1 hd hl0 hn hl k) k
theorem Ev.lload_n {q : Fin 4} {i : Nat} {x : Int64} (j : Nat) (hd : decode u.2.1 pc = .ok (.lload_n q, 1)) (hi : (q : Nat) = i) (hj : lv[j]? = some (i, .long x)) (k : Ev w Z u d (pc + 1) lv (.long x :: st) h Q) : Ev w Z u d pc lv st h Q := Ev.go1 (fun C _ _ _ _ _ _ _ hl k => lv_lload_n C.1 C.2.1 hd hi (lv_at hl j hj) k) k
theorem Ev.lload {i : Nat} {x : Int64} (j : Nat) (hd : decode u.2.1 pc = .ok (.lload i, 2)) (hj : lv[j]? = some (i, .long x)) (k : Ev w Z u d (pc + 2) lv (.long x :: st) h Q) : Ev w Z u d pc lv st h Q := Ev.go1 (fun C _ _ _ _ _ _ _ hl k => lv_lload C.1 C.2.1 hd (lv_at hl j hj) k) k
theorem Ev.lstore_n {q : Fin 4} {i : Nat} {x : Int64} (hd : decode u.2.1 pc = .ok (.lstore_n q, 1)) (hi : (q : Nat) = i) (hn : i + 1 < u.2.2.1) (hl : (i, Value.long x) :: lv.filter (fun q => !(q.1 == i) && (!(q.1 == i + 1) && !(q.1 + 1 == i && q.2.category == 2))) = lv') (k : Ev w Z u d (pc + 1) lv' st h Q) : Ev w Z u d pc lv (.long x :: st) h Q := Ev.go (fun C _ _ _ _ _ _ _ hl0 k => lv_lstore_n C.1 C.2.1 hd hi hl0 hn hl k) k
theorem Ev.lstore {i : Nat} {x : Int64} (hd : decode u.2.1 pc = .ok (.lstore i, 2)) (hn : i + 1 < u.2.2.1) (hl : (i, Value.long x) :: lv.filter (fun q => !(q.1 == i) && (!(q.1 == i + 1) && !(q.1 + 1 == i && q.2.category == 2))) = lv') (k : Ev w Z u d (pc + 2) lv' st h Q) : Ev w Z u d pc lv (.long x :: st) h Q := Ev.go (fun C _ _ _ _ _ _ _ hl0 k => lv_lstore C.1 C.2.1 hd hl0 hn hl k) k
theorem Ev.aload_n {q : Fin 4} {i : Nat} {x : Nat} (j : Nat) (hd : decode u.2.1 pc = .ok (.aload_n q, 1)) (hi : (q : Nat) = i) (hj : lv[j]? = some (i, .ref x)) (k : Ev w Z u d (pc + 1) lv (.ref x :: st) h Q) : Ev w Z u d pc lv st h Q := Ev.go1 (fun C _ _ _ _ _ _ _ hl k => lv_aload_n C.1 C.2.1 hd hi (lv_at hl j hj) k) k
theorem Ev.aload {i : Nat} {x : Nat} (j : Nat) (hd : decode u.2.1 pc = .ok (.aload i, 2)) (hj : lv[j]? = some (i, .ref x)) (k : Ev w Z u d (pc + 2) lv (.ref x :: st) h Q) : Ev w Z u d pc lv st h Q := Ev.go1 (fun C _ _ _ _ _ _ _ hl k => lv_aload C.1 C.2.1 hd (lv_at hl j hj) k) k
theorem Ev.astore_n {q : Fin 4} {i : Nat} {x : Nat} (hd : decode u.2.1 pc = .ok (.astore_n q, 1)) (hi : (q : Nat) = i) (hn : i < u.2.2.1) (hl : (i, Value.ref x) :: lv.filter (fun q => !(q.1 == i) && !(q.1 + 1 == i && q.2.category == 2)) = lv') (k : Ev w Z u d (pc + 1) lv' st h Q) : Ev w Z u d pc lv (.ref x :: st) h Q := Ev.go (fun C _ _ _ _ _ _ _ hl0 k => lv_astore_n C.1 C.2.1 hd hi hl0 hn hl k) k
theorem Ev.astore {i : Nat} {x : Nat} (hd : decode u.2.1 pc = .ok (.astore i, 2)) (hn : i < u.2.2.1) (hl : (i, Value.ref x) :: lv.filter (fun q => !(q.1 == i) && !(q.1 + 1 == i && q.2.category == 2)) = lv') (k : Ev w Z u d (pc + 2) lv' st h Q) : Ev w Z u d pc lv (.ref x :: st) h Q := Ev.go (fun C _ _ _ _ _ _ _ hl0 k => lv_astore C.1 C.2.1 hd hl0 hn hl k) k
theorem Ev.iinc {i : Nat} {n : Int} {x v : Int32} (j : Nat) (hd : decode u.2.1 pc = .ok (.iinc i n, 3)) (hj : lv[j]? = some (i, .int x)) (hv : x + Int32.ofInt n = v) (hn : i < u.2.2.1) (hl : (i, Value.int v) :: lv.filter (fun q => !(q.1 == i) && !(q.1 + 1 == i && q.2.category == 2)) = lv') (k : Ev w Z u d (pc + 3) lv' st h Q) : Ev w Z u d pc lv st h Q := Ev.go (fun C _ _ _ _ _ _ _ hl0 k => lv_iinc C.1 C.2.1 hd hl0 (k := j) hj hv hn hl k) k
theorem Ev.iadd {x y : Int32} (hd : decode u.2.1 pc = .ok (.iadd, 1)) (k : Ev w Z u d (pc + 1) lv (.int (x + y) :: st) h Q) : Ev w Z u d pc lv (.int y :: .int x :: st) h Q := Ev.go1 (fun C _ _ _ _ _ _ _ _ k => lv_iadd C.1 C.2.1 hd k) k
theorem Ev.isub {x y : Int32} (hd : decode u.2.1 pc = .ok (.isub, 1)) (k : Ev w Z u d (pc + 1) lv (.int (x - y) :: st) h Q) : Ev w Z u d pc lv (.int y :: .int x :: st) h Q := Ev.go1 (fun C _ _ _ _ _ _ _ _ k => lv_isub C.1 C.2.1 hd k) k
theorem Ev.imul {x y : Int32} (hd : decode u.2.1 pc = .ok (.imul, 1)) (k : Ev w Z u d (pc + 1) lv (.int (x * y) :: st) h Q) : Ev w Z u d pc lv (.int y :: .int x :: st) h Q := Ev.go1 (fun C _ _ _ _ _ _ _ _ k => lv_imul C.1 C.2.1 hd k) k
theorem Ev.iand {x y : Int32} (hd : decode u.2.1 pc = .ok (.iand, 1)) (k : Ev w Z u d (pc + 1) lv (.int (x &&& y) :: st) h Q) : Ev w Z u d pc lv (.int y :: .int x :: st) h Q := Ev.go1 (fun C _ _ _ _ _ _ _ _ k => lv_iand C.1 C.2.1 hd k) k
theorem Ev.ior {x y : Int32} (hd : decode u.2.1 pc = .ok (.ior, 1)) (k : Ev w Z u d (pc + 1) lv (.int (x ||| y) :: st) h Q) : Ev w Z u d pc lv (.int y :: .int x :: st) h Q := Ev.go1 (fun C _ _ _ _ _ _ _ _ k => lv_ior C.1 C.2.1 hd k) k
theorem Ev.ixor {x y : Int32} (hd : decode u.2.1 pc = .ok (.ixor, 1)) (k : Ev w Z u d (pc + 1) lv (.int (x ^^^ y) :: st) h Q) : Ev w Z u d pc lv (.int y :: .int x :: st) h Q := Ev.go1 (fun C _ _ _ _ _ _ _ _ k => lv_ixor C.1 C.2.1 hd k) k
theorem Ev.ishl {x y : Int32} (hd : decode u.2.1 pc = .ok (.ishl, 1)) (k : Ev w Z u d (pc + 1) lv (.int (x <<< (y &&& 31)) :: st) h Q) : Ev w Z u d pc lv (.int y :: .int x :: st) h Q := Ev.go1 (fun C _ _ _ _ _ _ _ _ k => lv_ishl C.1 C.2.1 hd k) k
theorem Ev.ishr {x y : Int32} (hd : decode u.2.1 pc = .ok (.ishr, 1)) (k : Ev w Z u d (pc + 1) lv (.int (x >>> (y &&& 31)) :: st) h Q) : Ev w Z u d pc lv (.int y :: .int x :: st) h Q := Ev.go1 (fun C _ _ _ _ _ _ _ _ k => lv_ishr C.1 C.2.1 hd k) k
theorem Ev.idiv {x y : Int32} (hd : decode u.2.1 pc = .ok (.idiv, 1)) (hne : ¬ y = 0) (k : Ev w Z u d (pc + 1) lv (.int (x / y) :: st) h Q) : Ev w Z u d pc lv (.int y :: .int x :: st) h Q := Ev.go1 (fun C _ _ _ _ _ _ _ _ k => lv_idiv C.1 C.2.1 hd hne k) k
theorem Ev.ineg {x : Int32} (hd : decode u.2.1 pc = .ok (.ineg, 1)) (k : Ev w Z u d (pc + 1) lv (.int (-x) :: st) h Q) : Ev w Z u d pc lv (.int x :: st) h Q := Ev.go1 (fun C _ _ _ _ _ _ _ _ k => lv_ineg C.1 C.2.1 hd k) k
theorem Ev.ladd {x y : Int64} (hd : decode u.2.1 pc = .ok (.ladd, 1)) (k : Ev w Z u d (pc + 1) lv (.long (x + y) :: st) h Q) : Ev w Z u d pc lv (.long y :: .long x :: st) h Q := Ev.go1 (fun C _ _ _ _ _ _ _ _ k => lv_ladd C.1 C.2.1 hd k) k
theorem Ev.lsub {x y : Int64} (hd : decode u.2.1 pc = .ok (.lsub, 1)) (k : Ev w Z u d (pc + 1) lv (.long (x - y) :: st) h Q) : Ev w Z u d pc lv (.long y :: .long x :: st) h Q := Ev.go1 (fun C _ _ _ _ _ _ _ _ k => lv_lsub C.1 C.2.1 hd k) k
theorem Ev.lmul {x y : Int64} (hd : decode u.2.1 pc = .ok (.lmul, 1)) (k : Ev w Z u d (pc + 1) lv (.long (x * y) :: st) h Q) : Ev w Z u d pc lv (.long y :: .long x :: st) h Q := Ev.go1 (fun C _ _ _ _ _ _ _ _ k => lv_lmul C.1 C.2.1 hd k) k
theorem Ev.land {x y : Int64} (hd : decode u.2.1 pc = .ok (.land, 1)) (k : Ev w Z u d (pc + 1) lv (.long (x &&& y) :: st) h Q) : Ev w Z u d pc lv (.long y :: .long x :: st) h Q := Ev.go1 (fun C _ _ _ _ _ _ _ _ k => lv_land C.1 C.2.1 hd k) k
theorem Ev.lor {x y : Int64} (hd : decode u.2.1 pc = .ok (.lor, 1)) (k : Ev w Z u d (pc + 1) lv (.long (x ||| y) :: st) h Q) : Ev w Z u d pc lv (.long y :: .long x :: st) h Q := Ev.go1 (fun C _ _ _ _ _ _ _ _ k => lv_lor C.1 C.2.1 hd k) k
theorem Ev.ldiv {x y : Int64} (hd : decode u.2.1 pc = .ok (.ldiv, 1)) (hne : ¬ y = 0) (k : Ev w Z u d (pc + 1) lv (.long (x / y) :: st) h Q) : Ev w Z u d pc lv (.long y :: .long x :: st) h Q := Ev.go1 (fun C _ _ _ _ _ _ _ _ k => lv_ldiv C.1 C.2.1 hd hne k) k
theorem Ev.lrem {x y : Int64} (hd : decode u.2.1 pc = .ok (.lrem, 1)) (hne : ¬ y = 0) (k : Ev w Z u d (pc + 1) lv (.long (x - x / y * y) :: st) h Q) : Ev w Z u d pc lv (.long y :: .long x :: st) h Q := Ev.go1 (fun C _ _ _ _ _ _ _ _ k => lv_lrem C.1 C.2.1 hd hne k) k
theorem Ev.lshl {x : Int64} {y : Int32} (hd : decode u.2.1 pc = .ok (.lshl, 1)) (k : Ev w Z u d (pc + 1) lv (.long (x <<< (y.toInt64 &&& 63)) :: st) h Q) : Ev w Z u d pc lv (.int y :: .long x :: st) h Q := Ev.go1 (fun C _ _ _ _ _ _ _ _ k => lv_lshl C.1 C.2.1 hd rfl k) k
theorem Ev.lushr {x : Int64} {y : Int32} (hd : decode u.2.1 pc = .ok (.lushr, 1)) (k : Ev w Z u d (pc + 1) lv (.long ((x.toUInt64 >>> (y.toInt64.toUInt64 &&& Int64.toUInt64 63)).toInt64) :: st) h Q) : Ev w Z u d pc lv (.int y :: .long x :: st) h Q := Ev.go1 (fun C _ _ _ _ _ _ _ _ k => lv_lushr C.1 C.2.1 hd rfl k) k
theorem Ev.i2l {x : Int32} (hd : decode u.2.1 pc = .ok (.i2l, 1)) (k : Ev w Z u d (pc + 1) lv (.long x.toInt64 :: st) h Q) : Ev w Z u d pc lv (.int x :: st) h Q := Ev.go1 (fun C _ _ _ _ _ _ _ _ k => lv_i2l C.1 C.2.1 hd rfl k) k
theorem Ev.l2i {x : Int64} (hd : decode u.2.1 pc = .ok (.l2i, 1)) (k : Ev w Z u d (pc + 1) lv (.int x.toInt32 :: st) h Q) : Ev w Z u d pc lv (.long x :: st) h Q := Ev.go1 (fun C _ _ _ _ _ _ _ _ k => lv_l2i C.1 C.2.1 hd rfl k) k
theorem Ev.i2c {x : Int32} (hd : decode u.2.1 pc = .ok (.i2c, 1)) (k : Ev w Z u d (pc + 1) lv (.int ((x.toUInt32 % 65536).toInt32) :: st) h Q) : Ev w Z u d pc lv (.int x :: st) h Q := Ev.go1 (fun C _ _ _ _ _ _ _ _ k => lv_i2c C.1 C.2.1 hd rfl k) k
theorem Ev.lcmp {x y : Int64} (hd : decode u.2.1 pc = .ok (.lcmp, 1)) (k : Ev w Z u d (pc + 1) lv (.int (lg_cmp x y) :: st) h Q) : Ev w Z u d pc lv (.long y :: .long x :: st) h Q := Ev.go1 (fun C _ _ _ _ _ _ _ _ k => W.lcmp C.1 C.2.1 hd k) k
theorem Ev.dup {va : Value} (hd : decode u.2.1 pc = .ok (.dup, 1)) (ha : va.category = 1) (k : Ev w Z u d (pc + 1) lv (va :: va :: st) h Q) : Ev w Z u d pc lv (va :: st) h Q := Ev.go1 (fun C _ _ _ _ _ _ _ _ k => lv_dup C.1 C.2.1 hd ha k) k
theorem Ev.dup2 {va vb : Value} (hd : decode u.2.1 pc = .ok (.dup2, 1)) (ha : va.category = 1) (hb : vb.category = 1) (k : Ev w Z u d (pc + 1) lv (va :: vb :: va :: vb :: st) h Q) : Ev w Z u d pc lv (va :: vb :: st) h Q := Ev.go1 (fun C _ _ _ _ _ _ _ _ k => lv_dup2_11 C.1 C.2.1 hd ha hb k) k
theorem Ev.goto {off : Int} {tgt : Nat} (hd : decode u.2.1 pc = .ok (.goto off, 3)) (ht : (pc : Int) + off = (tgt : Int)) (k : Ev w Z u d tgt lv st h Q) : Ev w Z u d pc lv st h Q := Ev.go1 (fun C _ _ _ _ _ _ _ _ k => lv_goto C.1 C.2.1 hd ht k) k
theorem Ev.if_eq {x : Int32} {off : Int} {tgt : Nat} (hd : decode u.2.1 pc = .ok (.ifCond .eq off, 3)) (ht : (pc : Int) + off = (tgt : Int)) (kt : x = 0 → Ev w Z u d tgt lv st h Q) (kf : ¬ (x = 0) → Ev w Z u d (pc + 3) lv st h Q) : Ev w Z u d pc lv (.int x :: st) h Q := by
  by_cases hx : x = 0
  · exact Ev.go1 (fun C _ _ _ _ _ _ _ _ k => lv_if_eq C.1 C.2.1 hd ht (fun _ => k) (fun n => absurd hx n)) (kt hx)
  · exact Ev.go1 (fun C _ _ _ _ _ _ _ _ k => lv_if_eq C.1 C.2.1 hd ht (fun n => absurd n hx) (fun _ => k)) (kf hx)
theorem Ev.icmp_eq {x y : Int32} {off : Int} {tgt : Nat} (hd : decode u.2.1 pc = .ok (.if_icmp .eq off, 3)) (ht : (pc : Int) + off = (tgt : Int)) (kt : x = y → Ev w Z u d tgt lv st h Q) (kf : ¬ (x = y) → Ev w Z u d (pc + 3) lv st h Q) : Ev w Z u d pc lv (.int y :: .int x :: st) h Q := by
  by_cases hx : x = y
  · exact Ev.go1 (fun C _ _ _ _ _ _ _ _ k => lv_icmp_eq C.1 C.2.1 hd ht (fun _ => k) (fun n => absurd hx n)) (kt hx)
  · exact Ev.go1 (fun C _ _ _ _ _ _ _ _ k => lv_icmp_eq C.1 C.2.1 hd ht (fun n => absurd n hx) (fun _ => k)) (kf hx)
theorem Ev.if_ne {x : Int32} {off : Int} {tgt : Nat} (hd : decode u.2.1 pc = .ok (.ifCond .ne off, 3)) (ht : (pc : Int) + off = (tgt : Int)) (kt : ¬ x = 0 → Ev w Z u d tgt lv st h Q) (kf : x = 0 → Ev w Z u d (pc + 3) lv st h Q) : Ev w Z u d pc lv (.int x :: st) h Q := by
  by_cases hx : x = 0
  · exact Ev.go1 (fun C _ _ _ _ _ _ _ _ k => lv_if_ne C.1 C.2.1 hd ht (fun n => absurd hx n) (fun _ => k)) (kf hx)
  · exact Ev.go1 (fun C _ _ _ _ _ _ _ _ k => lv_if_ne C.1 C.2.1 hd ht (fun _ => k) (fun n => absurd n hx)) (kt hx)
theorem Ev.icmp_ne {x y : Int32} {off : Int} {tgt : Nat} (hd : decode u.2.1 pc = .ok (.if_icmp .ne off, 3)) (ht : (pc : Int) + off = (tgt : Int)) (kt : ¬ x = y → Ev w Z u d tgt lv st h Q) (kf : x = y → Ev w Z u d (pc + 3) lv st h Q) : Ev w Z u d pc lv (.int y :: .int x :: st) h Q := by
  by_cases hx : x = y
  · exact Ev.go1 (fun C _ _ _ _ _ _ _ _ k => lv_icmp_ne C.1 C.2.1 hd ht (fun n => absurd hx n) (fun _ => k)) (kf hx)
  · exact Ev.go1 (fun C _ _ _ _ _ _ _ _ k => lv_icmp_ne C.1 C.2.1 hd ht (fun _ => k) (fun n => absurd n hx)) (kt hx)
theorem Ev.if_lt {x : Int32} {off : Int} {tgt : Nat} (hd : decode u.2.1 pc = .ok (.ifCond .lt off, 3)) (ht : (pc : Int) + off = (tgt : Int)) (kt : x < 0 → Ev w Z u d tgt lv st h Q) (kf : ¬ (x < 0) → Ev w Z u d (pc + 3) lv st h Q) : Ev w Z u d pc lv (.int x :: st) h Q := by
  by_cases hx : x < 0
  · exact Ev.go1 (fun C _ _ _ _ _ _ _ _ k => lv_if_lt C.1 C.2.1 hd ht (fun _ => k) (fun n => absurd hx n)) (kt hx)
  · exact Ev.go1 (fun C _ _ _ _ _ _ _ _ k => lv_if_lt C.1 C.2.1 hd ht (fun n => absurd n hx) (fun _ => k)) (kf hx)
theorem Ev.icmp_lt {x y : Int32} {off : Int} {tgt : Nat} (hd : decode u.2.1 pc = .ok (.if_icmp .lt off, 3)) (ht : (pc : Int) + off = (tgt : Int)) (kt : x < y → Ev w Z u d tgt lv st h Q) (kf : ¬ (x < y) → Ev w Z u d (pc + 3) lv st h Q) : Ev w Z u d pc lv (.int y :: .int x :: st) h Q := by
  by_cases hx : x < y
  · exact Ev.go1 (fun C _ _ _ _ _ _ _ _ k => lv_icmp_lt C.1 C.2.1 hd ht (fun _ => k) (fun n => absurd hx n)) (kt hx)
  · exact Ev.go1 (fun C _ _ _ _ _ _ _ _ k => lv_icmp_lt C.1 C.2.1 hd ht (fun n => absurd n hx) (fun _ => k)) (kf hx)
theorem Ev.if_ge {x : Int32} {off : Int} {tgt : Nat} (hd : decode u.2.1 pc = .ok (.ifCond .ge off, 3)) (ht : (pc : Int) + off = (tgt : Int)) (kt : 0 ≤ x → Ev w Z u d tgt lv st h Q) (kf : ¬ (0 ≤ x) → Ev w Z u d (pc + 3) lv st h Q) : Ev w Z u d pc lv (.int x :: st) h Q := by
  by_cases hx : 0 ≤ x
  · exact Ev.go1 (fun C _ _ _ _ _ _ _ _ k => lv_if_ge C.1 C.2.1 hd ht (fun _ => k) (fun n => absurd hx n)) (kt hx)
  · exact Ev.go1 (fun C _ _ _ _ _ _ _ _ k => lv_if_ge C.1 C.2.1 hd ht (fun n => absurd n hx) (fun _ => k)) (kf hx)
theorem Ev.icmp_ge {x y : Int32} {off : Int} {tgt : Nat} (hd : decode u.2.1 pc = .ok (.if_icmp .ge off, 3)) (ht : (pc : Int) + off = (tgt : Int)) (kt : y ≤ x → Ev w Z u d tgt lv st h Q) (kf : ¬ (y ≤ x) → Ev w Z u d (pc + 3) lv st h Q) : Ev w Z u d pc lv (.int y :: .int x :: st) h Q := by
  by_cases hx : y ≤ x
  · exact Ev.go1 (fun C _ _ _ _ _ _ _ _ k => lv_icmp_ge C.1 C.2.1 hd ht (fun _ => k) (fun n => absurd hx n)) (kt hx)
  · exact Ev.go1 (fun C _ _ _ _ _ _ _ _ k => lv_icmp_ge C.1 C.2.1 hd ht (fun n => absurd n hx) (fun _ => k)) (kf hx)
theorem Ev.if_gt {x : Int32} {off : Int} {tgt : Nat} (hd : decode u.2.1 pc = .ok (.ifCond .gt off, 3)) (ht : (pc : Int) + off = (tgt : Int)) (kt : 0 < x → Ev w Z u d tgt lv st h Q) (kf : ¬ (0 < x) → Ev w Z u d (pc + 3) lv st h Q) : Ev w Z u d pc lv (.int x :: st) h Q := by
  by_cases hx : 0 < x
  · exact Ev.go1 (fun C _ _ _ _ _ _ _ _ k => lv_if_gt C.1 C.2.1 hd ht (fun _ => k) (fun n => absurd hx n)) (kt hx)
  · exact Ev.go1 (fun C _ _ _ _ _ _ _ _ k => lv_if_gt C.1 C.2.1 hd ht (fun n => absurd n hx) (fun _ => k)) (kf hx)
theorem Ev.icmp_gt {x y : Int32} {off : Int} {tgt : Nat} (hd : decode u.2.1 pc = .ok (.if_icmp .gt off, 3)) (ht : (pc : Int) + off = (tgt : Int)) (kt : y < x → Ev w Z u d tgt lv st h Q) (kf : ¬ (y < x) → Ev w Z u d (pc + 3) lv st h Q) : Ev w Z u d pc lv (.int y :: .int x :: st) h Q := by
  by_cases hx : y < x
  · exact Ev.go1 (fun C _ _ _ _ _ _ _ _ k => lv_icmp_gt C.1 C.2.1 hd ht (fun _ => k) (fun n => absurd hx n)) (kt hx)
  · exact Ev.go1 (fun C _ _ _ _ _ _ _ _ k => lv_icmp_gt C.1 C.2.1 hd ht (fun n => absurd n hx) (fun _ => k)) (kf hx)
theorem Ev.if_le {x : Int32} {off : Int} {tgt : Nat} (hd : decode u.2.1 pc = .ok (.ifCond .le off, 3)) (ht : (pc : Int) + off = (tgt : Int)) (kt : x ≤ 0 → Ev w Z u d tgt lv st h Q) (kf : ¬ (x ≤ 0) → Ev w Z u d (pc + 3) lv st h Q) : Ev w Z u d pc lv (.int x :: st) h Q := by
  by_cases hx : x ≤ 0
  · exact Ev.go1 (fun C _ _ _ _ _ _ _ _ k => lv_if_le C.1 C.2.1 hd ht (fun _ => k) (fun n => absurd hx n)) (kt hx)
  · exact Ev.go1 (fun C _ _ _ _ _ _ _ _ k => lv_if_le C.1 C.2.1 hd ht (fun n => absurd n hx) (fun _ => k)) (kf hx)
theorem Ev.icmp_le {x y : Int32} {off : Int} {tgt : Nat} (hd : decode u.2.1 pc = .ok (.if_icmp .le off, 3)) (ht : (pc : Int) + off = (tgt : Int)) (kt : x ≤ y → Ev w Z u d tgt lv st h Q) (kf : ¬ (x ≤ y) → Ev w Z u d (pc + 3) lv st h Q) : Ev w Z u d pc lv (.int y :: .int x :: st) h Q := by
  by_cases hx : x ≤ y
  · exact Ev.go1 (fun C _ _ _ _ _ _ _ _ k => lv_icmp_le C.1 C.2.1 hd ht (fun _ => k) (fun n => absurd hx n)) (kt hx)
  · exact Ev.go1 (fun C _ _ _ _ _ _ _ _ k => lv_icmp_le C.1 C.2.1 hd ht (fun n => absurd n hx) (fun _ => k)) (kf hx)
theorem Ev.tableOut {dflt lo hi : Int} {offs : Array Int} {len tgt : Nat} {x : Int32} (hd : decode u.2.1 pc = .ok (.tableswitch dflt lo hi offs, len)) (hx : x.toInt < lo ∨ hi < x.toInt) (ht : (pc : Int) + dflt = (tgt : Int)) (k : Ev w Z u d tgt lv st h Q) : Ev w Z u d pc lv (.int x :: st) h Q := Ev.go1 (fun C _ _ _ _ _ _ _ _ k => lv_tableOut C.1 C.2.1 hd hx ht k) k
theorem Ev.tableIn {dflt lo hi : Int} {offs : Array Int} {len tgt : Nat} {x : Int32} {off : Int} (hd : decode u.2.1 pc = .ok (.tableswitch dflt lo hi offs, len)) (h1 : ¬ x.toInt < lo) (h2 : ¬ hi < x.toInt) (ho : offs[(x.toInt - lo).toNat]? = some off) (ht : (pc : Int) + off = (tgt : Int)) (k : Ev w Z u d tgt lv st h Q) : Ev w Z u d pc lv (.int x :: st) h Q := Ev.go1 (fun C _ _ _ _ _ _ _ _ k => lv_tableIn C.1 C.2.1 hd h1 h2 ho ht k) k
theorem Ev.lookup {dflt : Int} {ps : Array (Int × Int)} {len tgt : Nat} {x : Int32} {off : Int} (hd : decode u.2.1 pc = .ok (.lookupswitch dflt ps, len)) (hp : (ps.toList.zip (ps.toList.drop 1)).all (fun (a, next) => a.1 < next.1) = true) (ho : Op.lookupswitch.offset ps.toList dflt x.toInt = off) (ht : (pc : Int) + off = (tgt : Int)) (k : Ev w Z u d tgt lv st h Q) : Ev w Z u d pc lv (.int x :: st) h Q := Ev.go1 (fun C _ _ _ _ _ _ _ _ k => lv_lookup C.1 C.2.1 hd hp ho ht k) k
theorem Ev.ldcw {i : Nat} {v : Int32} (hd : decode u.2.1 pc = .ok (.ldc_w i, 3)) (hw : Cond.constant u.1.cls i v ∈ am_big) (k : Ev w Z u d (pc + 3) lv (.int v :: st) h Q) : Ev w Z u d pc lv st h Q := Ev.go1 (fun C _ _ _ _ _ _ _ _ k => lv_ldcw C.1 C.2.1 C.2.2.2.2.2.1 (C.2.2.2.2.2.2.2.1 _ hw) hd k) k
theorem Ev.ldc2 {i : Nat} {v : Int64} (hd : decode u.2.1 pc = .ok (.ldc2_w i, 3)) (hw : Cond.constantLong u.1.cls i v ∈ am_big) (k : Ev w Z u d (pc + 3) lv (.long v :: st) h Q) : Ev w Z u d pc lv st h Q := Ev.go1 (fun C _ _ _ _ _ _ _ _ k => lv_ldc2 C.1 C.2.1 C.2.2.2.2.2.1 (C.2.2.2.2.2.2.2.1 _ hw) hd k) k
end INS
end
section
/-! Fields, arrays, what is made, and ends, over the picture. -/
def am_cn (ci : Nat) : String := if ci = 0 then RX0 else if ci = 1 then RX1 else if ci = 2 then RX2 else if ci = 3 then RX3 else if ci = 4 then RX4 else if ci = 5 then RX5 else if ci = 6 then RX6 else if ci = 7 then RX7 else if ci = 8 then RX8 else if ci = 9 then RX9 else RX10
def am_ct (ci : Nat) : u_T := if ci = 0 then TX0 else if ci = 1 then TX1 else if ci = 2 then TX2 else if ci = 3 then TX3 else if ci = 4 then TX4 else if ci = 5 then TX5 else if ci = 6 then TX6 else if ci = 7 then TX7 else if ci = 8 then TX8 else if ci = 9 then TX9 else TX10
theorem am_vw (ci : Nat) (h : ci < 11) : vwCl[ci]? = some (am_cn ci, am_ct ci, am_n ci) := by
  match ci, h with
  | 0, _ => rfl
  | 1, _ => rfl
  | 2, _ => rfl
  | 3, _ => rfl
  | 4, _ => rfl
  | 5, _ => rfl
  | 6, _ => rfl
  | 7, _ => rfl
  | 8, _ => rfl
  | 9, _ => rfl
  | 10, _ => rfl
  | n + 11, h => exact absurd h (by omega)
set_option maxRecDepth 100000 in
theorem am_inb0 : ∀ x ∈ u_ws RX0 TX0 6, x ∈ am_big := by decide +kernel
set_option maxRecDepth 100000 in
theorem am_inb1 : ∀ x ∈ u_ws RX1 TX1 7, x ∈ am_big := by decide +kernel
set_option maxRecDepth 100000 in
theorem am_inb2 : ∀ x ∈ u_ws RX2 TX2 6, x ∈ am_big := by decide +kernel
set_option maxRecDepth 100000 in
theorem am_inb3 : ∀ x ∈ u_ws RX3 TX3 18, x ∈ am_big := by decide +kernel
set_option maxRecDepth 100000 in
theorem am_inb4 : ∀ x ∈ u_ws RX4 TX4 10, x ∈ am_big := by decide +kernel
set_option maxRecDepth 100000 in
theorem am_inb5 : ∀ x ∈ u_ws RX5 TX5 8, x ∈ am_big := by decide +kernel
set_option maxRecDepth 100000 in
theorem am_inb6 : ∀ x ∈ u_ws RX6 TX6 15, x ∈ am_big := by decide +kernel
set_option maxRecDepth 100000 in
theorem am_inb7 : ∀ x ∈ u_ws RX7 TX7 5, x ∈ am_big := by decide +kernel
set_option maxRecDepth 100000 in
theorem am_inb8 : ∀ x ∈ u_ws RX8 TX8 5, x ∈ am_big := by decide +kernel
set_option maxRecDepth 100000 in
theorem am_inb9 : ∀ x ∈ u_ws RX9 TX9 9, x ∈ am_big := by decide +kernel
set_option maxRecDepth 100000 in
theorem am_inb10 : ∀ x ∈ u_ws RX10 TX10 55, x ∈ am_big := by decide +kernel
theorem am_inb (ci : Nat) (h : ci < 11) : ∀ x ∈ u_ws (am_cn ci) (am_ct ci) (am_n ci), x ∈ am_big := by
  match ci, h with
  | 0, _ => exact am_inb0
  | 1, _ => exact am_inb1
  | 2, _ => exact am_inb2
  | 3, _ => exact am_inb3
  | 4, _ => exact am_inb4
  | 5, _ => exact am_inb5
  | 6, _ => exact am_inb6
  | 7, _ => exact am_inb7
  | 8, _ => exact am_inb8
  | 9, _ => exact am_inb9
  | 10, _ => exact am_inb10
  | n + 11, h => exact absurd h (by omega)
theorem am_nm (ci : Nat) (h : ci < 11) : ∀ a, a < am_n ci → ∀ b, b < am_n ci → a ≠ b → (am_ct ci a).2.1 ≠ (am_ct ci b).2.1 := by
  match ci, h with
  | 0, _ => exact nmX0
  | 1, _ => exact nmX1
  | 2, _ => exact nmX2
  | 3, _ => exact nmX3
  | 4, _ => exact nmX4
  | 5, _ => exact nmX5
  | 6, _ => exact nmX6
  | 7, _ => exact nmX7
  | 8, _ => exact nmX8
  | 9, _ => exact nmX9
  | 10, _ => exact nmX10
  | n + 11, h => exact absurd h (by omega)
theorem am_tyok (ci : Nat) (h : ci < 11) : ∀ k, k < am_n ci → parseFieldDescriptor (am_ct ci k).2.2.1 = some (am_tyf ci k) := by
  match ci, h with
  | 0, _ => exact tyX0_ok
  | 1, _ => exact tyX1_ok
  | 2, _ => exact tyX2_ok
  | 3, _ => exact tyX3_ok
  | 4, _ => exact tyX4_ok
  | 5, _ => exact tyX5_ok
  | 6, _ => exact tyX6_ok
  | 7, _ => exact tyX7_ok
  | 8, _ => exact tyX8_ok
  | 9, _ => exact tyX9_ok
  | 10, _ => exact tyX10_ok
  | n + 11, h => exact absurd h (by omega)
def am_zero (t : Nat) : Value := if t = 0 then .int 0 else if t = 1 then .long 0 else .null
theorem am_dflt : ∀ ci, ci < 11 → ∀ k, k < am_n ci → defaultValue (am_tyf ci k) = am_zero (am_ty ci k) := by decide +kernel
theorem am_R.obj {w : am_W} {h : am_H} {H : Heap} (q : am_R w h H) {a ci : Nat} (ha : hK h a = ci) (hc : ci < 11) : t_OB a (w.1.1 ci) (am_n ci) (w.1.2 ci) H (fun k => am_val h a k (am_ty ci k)) := by
  have q6 := (q.2.2.2.2.2 a (by omega)).2
  unfold am_at at q6
  rw [ha, if_pos hc] at q6
  exact q6
theorem am_R.arr {w : am_W} {h : am_H} {H : Heap} (q : am_R w h H) {a k : Nat} (ha : hK h a = k) (hc : 11 ≤ k) (hc2 : k < 16) : H[a]? = some (arrV (w.2.1 k) (hN h a) (fun j => am_val h a j (am_et k))) := by
  have q6 := (q.2.2.2.2.2 a (by omega)).2
  unfold am_at at q6
  rw [ha, if_neg (by omega)] at q6
  exact q6
theorem am_Kw.arr {w : am_W} {s : State} (q : am_Kw w s) {k : Nat} (hc : 11 ≤ k) (hc2 : k < 16) : ArrOfT s (w.2.1 k) (am_aty k) ∧ va_RA s (w.2.1 k) (am_aty k) := by
  rcases (show k = 11 ∨ k = 12 ∨ k = 13 ∨ k = 14 ∨ k = 15 by omega) with rfl | rfl | rfl | rfl | rfl
  · exact q.1.2 0 _ rfl
  · exact q.1.2 1 _ rfl
  · exact q.1.2 2 _ rfl
  · exact q.1.2 3 _ rfl
  · exact q.1.2 4 _ rfl
section MEM
variable {w : am_W} {Z : am_Zt} {u : am_M} {d pc : Nat} {lv : List (Nat × Value)} {st : List Value} {h : am_H} {Q : Option Value → am_H → Prop}
theorem Ev.getf {ci k i a : Nat} (hd : decode u.2.1 pc = .ok (.getfield i, 3)) (hc : ci < 11) (hk : k < am_n ci) (hw : Cond.fieldLink u.1.cls i (am_ct ci k).1 (am_ct ci k).2.1 (am_ct ci k).2.2.1 ∈ am_big) (ha : hK h a = ci) (kk : Ev w Z u d (pc + 3) lv (am_val h a k (am_ty ci k) :: st) h Q) : Ev w Z u d pc lv (.ref a :: st) h Q := by
  refine Ev.go1 (fun C _ _ _ _ _ _ hR _ kk => ?_) kk
  obtain ⟨hx, hb, -, -, -, hown, -, hts, hKw, -⟩ := id C
  obtain ⟨cell, q1, q2, q3, q4⟩ := hR.obj ha hc
  obtain ⟨hS, hfc, kC, hkC, hkind⟩ := hKw.1.1 ci _ (am_vw ci hc)
  obtain ⟨cf, kf, fi, f, hi, hsl⟩ := hS k hk
  refine W.getf hx hb hown (hts _ hw) hi (u_facts hfc hkC (u_lays hts (am_inb ci hc) hk) hi).1 q1 (by rw [q3]; exact fun h => by cases h) (v := am_val h a k (am_ty ci k)) ?_ rfl rfl hd kk
  rw [hsl]
  exact q4 k hk
theorem Ev.getI {ci k i a : Nat} (hd : decode u.2.1 pc = .ok (.getfield i, 3)) (hc : ci < 11) (hk : k < am_n ci) (ht : am_ty ci k = 0) (hw : Cond.fieldLink u.1.cls i (am_ct ci k).1 (am_ct ci k).2.1 (am_ct ci k).2.2.1 ∈ am_big) (ha : hK h a = ci) (kk : Ev w Z u d (pc + 3) lv (.int (hI h a k) :: st) h Q) : Ev w Z u d pc lv (.ref a :: st) h Q := by
  refine Ev.getf hd hc hk hw ha ?_
  rw [ht]
  exact kk
theorem Ev.getJ {ci k i a : Nat} (hd : decode u.2.1 pc = .ok (.getfield i, 3)) (hc : ci < 11) (hk : k < am_n ci) (ht : am_ty ci k = 1) (hw : Cond.fieldLink u.1.cls i (am_ct ci k).1 (am_ct ci k).2.1 (am_ct ci k).2.2.1 ∈ am_big) (ha : hK h a = ci) (kk : Ev w Z u d (pc + 3) lv (.long (hJ h a k) :: st) h Q) : Ev w Z u d pc lv (.ref a :: st) h Q := by
  refine Ev.getf hd hc hk hw ha ?_
  rw [ht]
  exact kk
theorem Ev.getR {ci k i a : Nat} (hd : decode u.2.1 pc = .ok (.getfield i, 3)) (hc : ci < 11) (hk : k < am_n ci) (ht : am_ty ci k = 2) (hw : Cond.fieldLink u.1.cls i (am_ct ci k).1 (am_ct ci k).2.1 (am_ct ci k).2.2.1 ∈ am_big) (ha : hK h a = ci) (hz : hR h a k ≠ 0) (kk : Ev w Z u d (pc + 3) lv (.ref (hR h a k) :: st) h Q) : Ev w Z u d pc lv (.ref a :: st) h Q := by
  refine Ev.getf hd hc hk hw ha ?_
  rw [ht]
  show Ev w Z u d (pc + 3) lv (am_o (hR h a k) :: st) h Q
  rw [am_o_ref hz]
  exact kk
theorem am_R.putO {w : am_W} {h : am_H} {H H1 : Heap} (q : am_R w h H) {a ci k : Nat} (ha : hK h a = ci) (hc : ci < 11) {v : Value} (hi : am_is v (am_ty ci k)) {cell : Cell} (q2 : cell.cls = w.1.1 ci) (q3 : cell.vm = .none) (q4 : ∀ j, j < am_n ci → cell.slots[w.1.2 ci j]? = some (am_val h a j (am_ty ci j))) (hap : ∀ x y, x < am_n ci → y < am_n ci → x ≠ y → w.1.2 ci x ≠ w.1.2 ci y) (hk : k < am_n ci)
    (e1 : H1[a]? = some (cell.setSlot (w.1.2 ci k) v)) (e2 : H1.size = H.size) (e3 : ∀ b : Nat, b ≠ a → H1[b]? = H[b]?) : am_R w (am_set h a k v) H1 := by
  refine q.put e2 e3 (by omega) (am_set_Z _ _ _ _) (am_set_K _ _ _ _) (am_set_N _ _ _ _) (fun b j t hb => am_set_ne t (Or.inl hb)) ?_
  unfold am_at
  rw [am_set_K, ha, if_pos hc]
  refine t_OB.to (V := updV (fun k => am_val h a k (am_ty ci k)) k v) ⟨_, e1, q2, q3, t_set q4 hap hk v⟩ (fun j _ => ?_)
  by_cases hj : j = k
  · subst hj
    rw [am_set_eq hi]
    simp [updV]
  · rw [am_set_ne _ (Or.inr hj)]
    simp [updV, hj]
theorem Ev.put {ci k i a : Nat} {v : Value} (hd : decode u.2.1 pc = .ok (.putfield i, 3)) (hc : ci < 11) (hk : k < am_n ci) (hw : Cond.fieldLink u.1.cls i (am_ct ci k).1 (am_ct ci k).2.1 (am_ct ci k).2.2.1 ∈ am_big) (hfin : (am_ct ci k).2.2.2 = false) (hn : narrow (am_tyf ci k) v = v) (hfit : fits (am_tyf ci k) v = true) (hi : am_is v (am_ty ci k)) (ha : hK h a = ci) (kk : Ev w Z u d (pc + 3) lv st (am_set h a k v) Q) : Ev w Z u d pc lv (v :: .ref a :: st) h Q := by
  refine Ev.goH (am_set_Z _ _ _ _) (am_set_S _ _ _ _) (fun C _ _ _ _ _ _ hR _ kk => ?_) kk
  obtain ⟨hx, hb, -, -, -, hown, -, hts, hKw, -⟩ := id C
  obtain ⟨cell, q1, q2, q3, q4⟩ := hR.obj ha hc
  have hap := va_apart (own := u.1.cls) hts (am_inb ci hc) (am_tyf ci) (am_tyok ci hc) (am_nm ci hc) hKw.1 (am_vw ci hc)
  obtain ⟨hS, hfc, kC, hkC, hkind⟩ := hKw.1.1 ci _ (am_vw ci hc)
  obtain ⟨cf, kf, fi, f, hi', hsl⟩ := hS k hk
  have hlay := hts _ (am_inb ci hc _ (u_in_lay hk))
  unfold u_lay at hlay
  rw [if_neg (by rw [hfin]; decide)] at hlay
  have hst := (u_facts hfc hkC (u_lays hts (am_inb ci hc) hk) hi').1
  have h6 := u_store hfc hkC hkind hlay hi' (am_tyok ci hc k hk) hn hfit
  refine W.putK hx hb (f := f) ⟨hown, hts _ hw, ⟨_, _, _, hi'⟩, hst⟩ (by rw [q2]; exact h6) q1 q3 (by rw [hsl]; exact k2_hasslot (q4 k hk)) rfl rfl hd fun H' e1 e2 e3 => ?_
  rw [hsl] at e1 ⊢
  exact kk H' [⟨a, _⟩] (hR.putO ha hc hi q2 q3 q4 hap hk e1 e2 e3) (fun q hq => by rw [List.mem_singleton.mp hq]; exact (hR.2.2.2.2.2 a (by omega)).1)
theorem Ev.putF {ci k i a : Nat} {v : Value} (hd : decode u.2.1 pc = .ok (.putfield i, 3)) (hc : ci < 11) (hk : k < am_n ci) (hw : Cond.fieldLink u.1.cls i (am_ct ci k).1 (am_ct ci k).2.1 (am_ct ci k).2.2.1 ∈ am_big) (hfin : (am_ct ci k).2.2.2 = true) (hin : u.1.name = "<init>") (hdecl : (am_ct ci k).1 = u.1.cls) (hn : narrow (am_tyf ci k) v = v) (hfit : fits (am_tyf ci k) v = true) (hi : am_is v (am_ty ci k)) (ha : hK h a = ci) (kk : Ev w Z u d (pc + 3) lv st (am_set h a k v) Q) : Ev w Z u d pc lv (v :: .ref a :: st) h Q := by
  refine Ev.goH (am_set_Z _ _ _ _) (am_set_S _ _ _ _) (fun C H locs cells slots ls QQ hR hl0 kk => ?_) kk
  rename_i p l e R s m args below meth c mc ms
  obtain ⟨hx, hb, -, -, -, hown, hname, hts, hKw, -⟩ := id C
  obtain ⟨cell, q1, q2, q3, q4⟩ := hR.obj ha hc
  have hap := va_apart (own := u.1.cls) hts (am_inb ci hc) (am_tyf ci) (am_tyok ci hc) (am_nm ci hc) hKw.1 (am_vw ci hc)
  obtain ⟨hS, hfc, kC, hkC, hkind⟩ := hKw.1.1 ci _ (am_vw ci hc)
  obtain ⟨cf, kf, fi, f, hi', hsl⟩ := hS k hk
  have hlay := hts _ (am_inb ci hc _ (u_in_lay hk))
  unfold u_lay at hlay
  rw [if_pos hfin] at hlay
  have hst := (u_facts hfc hkC (u_lays hts (am_inb ci hc) hk) hi').1
  have hcf : m.cls = cf := by
    obtain ⟨_, _, c', _, _, _, -, -, hf', -, -, -, hown2, -⟩ := Cond.laysFinal_spec hlay
    have e1 : c' = cf := by have := hi'.symm.trans hf'; simp at this; exact this.1.symm
    rw [hdecl] at hown2
    rw [← e1]; exact Option.some.inj (hown.symm.trans hown2)
  have h6 := u_fits hfc hkC hkind (Or.inr hlay) hi' (am_tyok ci hc k hk) hn hfit
  refine W.putFinK hx hb hown (hts _ hw) hi' hst hcf (hname.trans hin) (by rw [q2]; exact h6) q1 q3 (by rw [hsl]; exact k2_hasslot (q4 k hk)) rfl rfl hd fun H' e1 e2 e3 => ?_
  rw [hsl] at e1 ⊢
  exact kk H' [⟨a, _⟩] (hR.putO ha hc hi q2 q3 q4 hap hk e1 e2 e3) (fun q hq => by rw [List.mem_singleton.mp hq]; exact (hR.2.2.2.2.2 a (by omega)).1)
end MEM
end
section
section ARR
variable {w : am_W} {Z : am_Zt} {u : am_M} {d pc : Nat} {lv : List (Nat × Value)} {st : List Value} {h : am_H} {Q : Option Value → am_H → Prop}
theorem Ev.alen {a : Nat} (k : Nat) (hd : decode u.2.1 pc = .ok (.arraylength, 1)) (h1 : 11 ≤ k) (h2 : k < 16) (ha : hK h a = k) (kk : Ev w Z u d (pc + 1) lv (.int (nI (hN h a)) :: st) h Q) : Ev w Z u d pc lv (.ref a :: st) h Q := by
  refine Ev.go1 (fun C _ _ _ _ _ _ hR _ kk => ?_) kk
  exact W.alen (n := nI (hN h a)) C.1 C.2.1 (hR.arr ha h1 h2) ((C.2.2.2.2.2.2.2.2.1.arr h1 h2).1 _ _) (by rw [arrV_size]; rfl) rfl rfl hd kk
theorem Ev.iald {a : Nat} {i : Int32} (hd : decode u.2.1 pc = .ok (.iaload, 1)) (ha : hK h a = 12) (hin : vp_in i (hN h a)) (kk : Ev w Z u d (pc + 1) lv (.int (hI h a i.toNatClampNeg) :: st) h Q) : Ev w Z u d pc lv (.int i :: .ref a :: st) h Q := by
  refine Ev.go1 (fun C _ _ _ _ _ _ hR _ kk => ?_) kk
  have hlt : i.toNatClampNeg < hN h a := Nat.not_le.mp fun q => hin (Or.inr q)
  exact W.iald (v := .int (hI h a i.toNatClampNeg)) C.1 C.2.1 (hR.arr ha (by decide) (by decide)) ((C.2.2.2.2.2.2.2.2.1.arr (k := 12) (by decide) (by decide)).1 _ _) (fun q => by cases q) (by rw [arrV_size]; exact hin) (by rw [arrV_read _ _ hlt]; rfl) rfl rfl hd kk
theorem Ev.cald {a : Nat} {i : Int32} (hd : decode u.2.1 pc = .ok (.caload, 1)) (ha : hK h a = 11) (hin : vp_in i (hN h a)) (kk : Ev w Z u d (pc + 1) lv (.int (hI h a i.toNatClampNeg) :: st) h Q) : Ev w Z u d pc lv (.int i :: .ref a :: st) h Q := by
  refine Ev.go1 (fun C _ _ _ _ _ _ hR _ kk => ?_) kk
  have hlt : i.toNatClampNeg < hN h a := Nat.not_le.mp fun q => hin (Or.inr q)
  exact W.cald (v := .int (hI h a i.toNatClampNeg)) C.1 C.2.1 (hR.arr ha (by decide) (by decide)) ((C.2.2.2.2.2.2.2.2.1.arr (k := 11) (by decide) (by decide)).1 _ _) (fun q => by cases q) (by rw [arrV_size]; exact hin) (by rw [arrV_read _ _ hlt]; rfl) rfl rfl hd kk
theorem Ev.zald {a : Nat} {i : Int32} (hd : decode u.2.1 pc = .ok (.baload, 1)) (ha : hK h a = 14) (hin : vp_in i (hN h a)) (kk : Ev w Z u d (pc + 1) lv (.int (hI h a i.toNatClampNeg) :: st) h Q) : Ev w Z u d pc lv (.int i :: .ref a :: st) h Q := by
  refine Ev.go1 (fun C _ _ _ _ _ _ hR _ kk => ?_) kk
  have hlt : i.toNatClampNeg < hN h a := Nat.not_le.mp fun q => hin (Or.inr q)
  exact W.zald (v := .int (hI h a i.toNatClampNeg)) C.1 C.2.1 (hR.arr ha (by decide) (by decide)) ((C.2.2.2.2.2.2.2.2.1.arr (k := 14) (by decide) (by decide)).1 _ _) (fun q => by cases q) (by rw [arrV_size]; exact hin) (by rw [arrV_read _ _ hlt]; rfl) rfl rfl hd kk
theorem Ev.lald {a : Nat} {i : Int32} (hd : decode u.2.1 pc = .ok (.laload, 1)) (ha : hK h a = 13) (hin : vp_in i (hN h a)) (kk : Ev w Z u d (pc + 1) lv (.long (hJ h a i.toNatClampNeg) :: st) h Q) : Ev w Z u d pc lv (.int i :: .ref a :: st) h Q := by
  refine Ev.go1 (fun C _ _ _ _ _ _ hR _ kk => ?_) kk
  have hlt : i.toNatClampNeg < hN h a := Nat.not_le.mp fun q => hin (Or.inr q)
  exact W.lald (v := .long (hJ h a i.toNatClampNeg)) C.1 C.2.1 (hR.arr ha (by decide) (by decide)) ((C.2.2.2.2.2.2.2.2.1.arr (k := 13) (by decide) (by decide)).1 _ _) (fun q => by cases q) (by rw [arrV_size]; exact hin) (by rw [arrV_read _ _ hlt]; rfl) rfl rfl hd kk
theorem Ev.aald {a : Nat} {i : Int32} (hd : decode u.2.1 pc = .ok (.aaload, 1)) (ha : hK h a = 15) (hin : vp_in i (hN h a)) (hz : hR h a i.toNatClampNeg ≠ 0) (kk : Ev w Z u d (pc + 1) lv (.ref (hR h a i.toNatClampNeg) :: st) h Q) : Ev w Z u d pc lv (.int i :: .ref a :: st) h Q := by
  refine Ev.go1 (fun C _ _ _ _ _ _ hq _ kk => ?_) kk
  have hlt : i.toNatClampNeg < hN h a := Nat.not_le.mp fun q => hin (Or.inr q)
  exact W.aald (v := .ref (hR h a i.toNatClampNeg)) C.1 C.2.1 (hq.arr ha (by decide) (by decide)) ((C.2.2.2.2.2.2.2.2.1.arr (k := 15) (by decide) (by decide)).1 _ _) rfl (fun q => by cases q) (by rw [arrV_size]; exact hin) (by rw [arrV_read _ _ hlt]; exact congrArg some (am_o_ref hz)) rfl rfl hd kk
theorem am_R.putA {w : am_W} {h : am_H} {H H1 : Heap} (q : am_R w h H) {a k j : Nat} (ha : hK h a = k) (h1 : 11 ≤ k) (h2 : k < 16) {v : Value} (hi : am_is v (am_et k)) (e1 : H1[a]? = some ((arrV (w.2.1 k) (hN h a) (fun j => am_val h a j (am_et k))).setSlot j v)) (e2 : H1.size = H.size) (e3 : ∀ b : Nat, b ≠ a → H1[b]? = H[b]?) : am_R w (am_set h a j v) H1 := by
  refine q.put e2 e3 (by omega) (am_set_Z _ _ _ _) (am_set_K _ _ _ _) (am_set_N _ _ _ _) (fun b j t hb => am_set_ne t (Or.inl hb)) ?_
  unfold am_at
  rw [am_set_K, am_set_N, ha, if_neg (by omega), e1, arrV_store]
  congr 2
  funext i
  by_cases hj : i = j
  · subst hj
    rw [am_set_eq hi]
    simp [updV]
  · rw [am_set_ne _ (Or.inr hj)]
    simp [updV, hj]
theorem Ev.iast {a : Nat} {i x : Int32} (hd : decode u.2.1 pc = .ok (.iastore, 1)) (ha : hK h a = 12) (hin : vp_in i (hN h a)) (kk : Ev w Z u d (pc + 1) lv st (sI h a i.toNatClampNeg x) Q) : Ev w Z u d pc lv (.int x :: .int i :: .ref a :: st) h Q := by
  refine Ev.goH (h1 := sI h a i.toNatClampNeg x) rfl rfl (fun C _ _ _ _ _ _ hR _ kk => ?_) kk
  refine W.iast C.1 C.2.1 (hR.arr ha (by decide) (by decide)) ((C.2.2.2.2.2.2.2.2.1.arr (k := 12) (by decide) (by decide)).1 _ _) (fun q => by cases q) (by rw [arrV_size]; exact hin) rfl rfl hd fun H1 e1 e2 e3 => ?_
  exact kk H1 [⟨a, _⟩] (hR.putA ha (by decide) (by decide) (v := .int x) rfl e1 e2 e3) (fun q hq => by rw [List.mem_singleton.mp hq]; exact (hR.2.2.2.2.2 a (by omega)).1)
theorem Ev.last {a : Nat} {i : Int32} {x : Int64} (hd : decode u.2.1 pc = .ok (.lastore, 1)) (ha : hK h a = 13) (hin : vp_in i (hN h a)) (kk : Ev w Z u d (pc + 1) lv st (sJ h a i.toNatClampNeg x) Q) : Ev w Z u d pc lv (.long x :: .int i :: .ref a :: st) h Q := by
  refine Ev.goH (h1 := sJ h a i.toNatClampNeg x) rfl rfl (fun C _ _ _ _ _ _ hR _ kk => ?_) kk
  refine W.last C.1 C.2.1 (hR.arr ha (by decide) (by decide)) ((C.2.2.2.2.2.2.2.2.1.arr (k := 13) (by decide) (by decide)).1 _ _) (fun q => by cases q) (by rw [arrV_size]; exact hin) rfl rfl hd fun H1 e1 e2 e3 => ?_
  exact kk H1 [⟨a, _⟩] (hR.putA ha (by decide) (by decide) (v := .long x) rfl e1 e2 e3) (fun q hq => by rw [List.mem_singleton.mp hq]; exact (hR.2.2.2.2.2 a (by omega)).1)
theorem Ev.cast {a : Nat} {i x : Int32} (hd : decode u.2.1 pc = .ok (.castore, 1)) (ha : hK h a = 11) (hin : vp_in i (hN h a)) (hn : narrow .char (.int x) = .int x) (kk : Ev w Z u d (pc + 1) lv st (sI h a i.toNatClampNeg x) Q) : Ev w Z u d pc lv (.int x :: .int i :: .ref a :: st) h Q := by
  refine Ev.goH (h1 := sI h a i.toNatClampNeg x) rfl rfl (fun C _ _ _ _ _ _ hR _ kk => ?_) kk
  refine W.cast C.1 C.2.1 (hR.arr ha (by decide) (by decide)) ((C.2.2.2.2.2.2.2.2.1.arr (k := 11) (by decide) (by decide)).1 _ _) (fun q => by cases q) (by rw [arrV_size]; exact hin) rfl rfl hd fun H1 e1 e2 e3 => ?_
  rw [hn] at e1
  exact kk H1 [⟨a, _⟩] (hR.putA ha (by decide) (by decide) (v := .int x) rfl e1 e2 e3) (fun q hq => by rw [List.mem_singleton.mp hq]; exact (hR.2.2.2.2.2 a (by omega)).1)
theorem Ev.zast {a : Nat} {i x : Int32} (hd : decode u.2.1 pc = .ok (.bastore, 1)) (ha : hK h a = 14) (hin : vp_in i (hN h a)) (hn : narrow .boolean (.int x) = .int x) (kk : Ev w Z u d (pc + 1) lv st (sI h a i.toNatClampNeg x) Q) : Ev w Z u d pc lv (.int x :: .int i :: .ref a :: st) h Q := by
  refine Ev.goH (h1 := sI h a i.toNatClampNeg x) rfl rfl (fun C _ _ _ _ _ _ hR _ kk => ?_) kk
  refine W.zast C.1 C.2.1 (hR.arr ha (by decide) (by decide)) ((C.2.2.2.2.2.2.2.2.1.arr (k := 14) (by decide) (by decide)).1 _ _) (fun q => by cases q) (by rw [arrV_size]; exact hin) rfl rfl hd fun H1 e1 e2 e3 => ?_
  rw [hn] at e1
  exact kk H1 [⟨a, _⟩] (hR.putA ha (by decide) (by decide) (v := .int x) rfl e1 e2 e3) (fun q hq => by rw [List.mem_singleton.mp hq]; exact (hR.2.2.2.2.2 a (by omega)).1)
/-- a State put into an array of them -/
theorem Ev.aast {a v : Nat} {i : Int32} (hd : decode u.2.1 pc = .ok (.aastore, 1)) (ha : hK h a = 15) (hin : vp_in i (hN h a)) (hv : hK h v = 7) (kk : Ev w Z u d (pc + 1) lv st (sR h a i.toNatClampNeg v) Q) : Ev w Z u d pc lv (.ref v :: .int i :: .ref a :: st) h Q := by
  refine Ev.goH (h1 := sR h a i.toNatClampNeg v) rfl rfl (fun C _ _ _ _ _ _ hR _ kk => ?_) kk
  have hlt : i.toNatClampNeg < hN h a := Nat.not_le.mp fun q => hin (Or.inr q)
  have h0 : ¬ i < 0 := fun q => hin (Or.inl q)
  obtain ⟨cellV, g1, g2, g3, -⟩ := hR.obj hv (by decide)
  have hKw := C.2.2.2.2.2.2.2.2.1
  have hcls := (hKw.1.1 7 _ (am_vw 7 (by decide))).2
  obtain ⟨kA, comp, k1, k2, k3, -⟩ := (hKw.arr (k := 15) (by decide) (by decide)).2
  have hcomp : comp = w.1.1 7 := Option.some.inj (k3.symm.trans hcls.1)
  subst hcomp
  obtain ⟨kC, hkC, -⟩ := hcls.2
  have hv0 : v ≠ 0 := fun e => by have h3 := (hR.2.2.2.2.2 v (by omega)).1; have h4 := hR.2.2.1; omega
  refine W.aast C.1 C.2.1 (hR.arr ha (by decide) (by decide)) (fun q h => by cases h) (fun h => by cases h) k1 k2 rfl hkC ⟨h0, by rw [arrV_size]; exact hlt⟩ g1 (fun q h => by rw [g3] at h; cases h) (by rw [g2]; exact hkC) (by rw [g2]; exact va_assign hcls) rfl rfl hd fun H1 e1 e2 e3 => ?_
  exact kk H1 [⟨a, _⟩] (hR.putA ha (by decide) (by decide) (v := .ref v) ⟨rfl, hv0⟩ e1 e2 e3) (fun q hq => by rw [List.mem_singleton.mp hq]; exact (hR.2.2.2.2.2 a (by omega)).1)
end ARR
end
section
theorem am_val_new {h h1 : am_H} {b : Nat} (hI1 : hI h1 b = hI h b) (hJ1 : hJ h1 b = hJ h b) (hR1 : hR h1 b = hR h b) (j t : Nat) : am_val h1 b j t = am_val h b j t := by
  unfold am_val
  rw [hI1, hJ1, hR1]
theorem am_val_nO (h : am_H) (ci n : Nat) {b : Nat} (hb : b ≠ hZ h) (j t : Nat) : am_val (nO h ci n) b j t = am_val h b j t := am_val_new (h := h) (h1 := nO h ci n) (va_up_ne _ _ hb) (va_up_ne _ _ hb) (va_up_ne _ _ hb) j t
theorem am_val_nA (h : am_H) (ci n : Nat) {b : Nat} (hb : b ≠ hZ h) (j t : Nat) : am_val (nA h ci n) b j t = am_val h b j t := am_val_new (h := h) (h1 := nA h ci n) (va_up_ne _ _ hb) (va_up_ne _ _ hb) (va_up_ne _ _ hb) j t
/-- a cell is born at the heap's end -/
theorem am_R.born {w : am_W} {h h1 : am_H} {H H1 : Heap} {k : Nat} (q : am_R w h H) (hz : H1.size = hZ h + 1) (ho : ∀ b : Nat, b < hZ h → H1[b]? = H[b]?) (z1 : hZ h1 = hZ h + 1) (k1 : hK h1 = va_up (hK h) (hZ h) k) (n1 : ∀ b, b ≠ hZ h → hN h1 b = hN h b) (v1 : ∀ b j t, b ≠ hZ h → am_val h1 b j t = am_val h b j t) (h1a : am_at w h1 H1 (hZ h)) : am_R w h1 H1 := by
  obtain ⟨q1, q2, q3, q4, q5, q6⟩ := q
  refine ⟨by rw [hz, z1], q2, q3, by omega, fun b hb => ?_, fun b hb => ?_⟩
  · rw [ho b (by omega), q5 b hb]
  · by_cases e : b = hZ h
    · subst e
      exact ⟨q4, h1a⟩
    · rw [k1, va_up_ne _ _ e] at hb
      have hl : b < hZ h := by rw [← q1]; exact (q6 b hb).2.lt
      exact ⟨(q6 b hb).1, (q6 b hb).2.kept (ho b hl) (by rw [k1, va_up_ne _ _ e]) (n1 b e) (fun j t => v1 b j t e)⟩
section NEW
variable {w : am_W} {Z : am_Zt} {u : am_M} {d pc : Nat} {lv : List (Nat × Value)} {st : List Value} {h : am_H} {Q : Option Value → am_H → Prop}
theorem Ev.newO {ci i : Nat} (hd : decode u.2.1 pc = .ok (.new i, 3)) (hc : ci < 11) (hw : Cond.classLink u.1.cls i (am_cn ci) ∈ am_big) (hi : Cond.instantiable (am_cn ci) (am_n ci) ∈ am_big) (hn : Cond.initialized (am_cn ci) ∈ am_big) (kk : Ev w Z u d (pc + 3) lv (.ref (hZ h) :: st) (nO h ci (am_n ci)) Q) : Ev w Z u d pc lv st h Q := by
  refine Ev.goN (h1 := nO h ci (am_n ci)) (n := am_n ci) rfl rfl (fun C H locs cells slots ls QQ h1 h2 hq hl kk => ?_) kk
  rename_i p l e R s m args below meth c mc ms
  obtain ⟨hx, hb, -, -, -, hown, -, hts, hKw, -⟩ := id C
  have hKn := hKw.1.1 ci _ (am_vw ci hc)
  refine W.newcK (n := am_n ci) hx hb hown (hts _ hw) (hts _ hi) (hts _ hn) rfl hd h1 h2 hKn.2.1 hq.1 fun H1 kC hkC e1 z1 o1 => ?_
  refine kk H1 (hq.born (k := ci) z1 o1 rfl rfl (fun b _ => rfl) (fun b j t hb => am_val_nO _ _ _ hb j t) ?_)
  have hk1 : hK (nO h ci (am_n ci)) (hZ h) = ci := va_up_self _ _ _
  unfold am_at
  rw [hk1, if_pos hc]
  refine (u_born (am_tyf ci) hts (am_inb ci hc) hKn hkC e1 (am_tyok ci hc)).to (fun k hk => ?_)
  rw [am_dflt ci hc k hk]
  unfold am_zero am_val
  split
  · simp [nO, hI, va_up_self]
  · split
    · simp [nO, hJ, va_up_self]
    · simp [nO, hR, va_up_self, am_o]
theorem Ev.newA {k : Nat} {ty : ArrayType} {n : Int32} {N : Nat} (hd : decode u.2.1 pc = .ok (.newarray ty, 2)) (h1 : 11 ≤ k) (h2 : k < 15) (ht : newarray.typeOf ty = am_aty k) (hz : defaultValue (am_aty k) = am_zero (am_et k)) (hw : Cond.arrayClass (am_aty k) ∈ am_big) (hn : ¬ n < 0) (hN' : n.toNatClampNeg = N) (hbytes : N * componentBytes (am_aty k) ≤ 536870912) (hra : ∀ (s : State) (c : ClassId), va_RA s c (am_aty k) → s.vm.findClass ("[" ++ (am_aty k).toString) = some c) (kk : Ev w Z u d (pc + 2) lv (.ref (hZ h) :: st) (nA h k N) Q) : Ev w Z u d pc lv (.int n :: st) h Q := by
  refine Ev.goN (h1 := nA h k N) (n := N) rfl rfl (fun C H locs cells slots ls QQ g1 g2 hq hl kk => ?_) kk
  rename_i p l e R s m args below meth c mc ms
  obtain ⟨hx, hb, -, -, -, hown, -, hts, hKw, -⟩ := id C
  refine va_newaK hx hb (atype := ty) (by rw [ht]; exact hts _ hw) rfl hd rfl hn hN' (by rw [ht]; exact hbytes) g1 g2 hq.1 fun H1 cA e1 z1 o1 hAr hNm => ?_
  rw [ht] at e1 hAr hNm
  have hcA : cA = w.2.1 k := Option.some.inj (hNm.symm.trans (hra _ _ (hKw.arr h1 (by omega)).2))
  subst hcA
  refine kk H1 (hq.born (k := k) z1 o1 rfl rfl (fun b hb => va_up_ne _ _ hb) (fun b j t hb => am_val_nA _ _ _ hb j t) ?_)
  have hk1 : hK (nA h k N) (hZ h) = k := va_up_self _ _ _
  have hn1 : hN (nA h k N) (hZ h) = N := va_up_self _ _ _
  unfold am_at
  rw [hk1, hn1, if_neg (by omega), e1, hz]
  congr 2
  funext j
  unfold am_zero am_val
  split
  · simp [nA, hI, va_up_self]
  · split
    · simp [nA, hJ, va_up_self]
    · simp [nA, hR, va_up_self, am_o]
theorem Ev.newI {n : Int32} {N : Nat} (hd : decode u.2.1 pc = .ok (.newarray .int, 2)) (hw : Cond.arrayClass .int ∈ am_big) (hn : ¬ n < 0) (hN' : n.toNatClampNeg = N) (hb : N ≤ 100000000) (kk : Ev w Z u d (pc + 2) lv (.ref (hZ h) :: st) (nA h 12 N) Q) : Ev w Z u d pc lv (.int n :: st) h Q :=
  Ev.newA (k := 12) hd (by decide) (by decide) rfl rfl hw hn hN' (show N * 4 ≤ _ by omega) (fun _ _ q => q) kk
theorem Ev.newJ {n : Int32} {N : Nat} (hd : decode u.2.1 pc = .ok (.newarray .long, 2)) (hw : Cond.arrayClass .long ∈ am_big) (hn : ¬ n < 0) (hN' : n.toNatClampNeg = N) (hb : N ≤ 50000000) (kk : Ev w Z u d (pc + 2) lv (.ref (hZ h) :: st) (nA h 13 N) Q) : Ev w Z u d pc lv (.int n :: st) h Q :=
  Ev.newA (k := 13) hd (by decide) (by decide) rfl rfl hw hn hN' (show N * 8 ≤ _ by omega) (fun _ _ q => q) kk
theorem Ev.newZ {n : Int32} {N : Nat} (hd : decode u.2.1 pc = .ok (.newarray .boolean, 2)) (hw : Cond.arrayClass .boolean ∈ am_big) (hn : ¬ n < 0) (hN' : n.toNatClampNeg = N) (hb : N ≤ 100000000) (kk : Ev w Z u d (pc + 2) lv (.ref (hZ h) :: st) (nA h 14 N) Q) : Ev w Z u d pc lv (.int n :: st) h Q :=
  Ev.newA (k := 14) hd (by decide) (by decide) rfl rfl hw hn hN' (show N * 1 ≤ _ by omega) (fun _ _ q => q) kk
theorem Ev.newC {n : Int32} {N : Nat} (hd : decode u.2.1 pc = .ok (.newarray .char, 2)) (hw : Cond.arrayClass .char ∈ am_big) (hn : ¬ n < 0) (hN' : n.toNatClampNeg = N) (hb : N ≤ 100000000) (kk : Ev w Z u d (pc + 2) lv (.ref (hZ h) :: st) (nA h 11 N) Q) : Ev w Z u d pc lv (.int n :: st) h Q :=
  Ev.newA (k := 11) hd (by decide) (by decide) rfl rfl hw hn hN' (show N * 2 ≤ _ by omega) (fun _ _ q => q) kk
/-- an array of States -/
theorem Ev.newS {i : Nat} {n : Int32} {N : Nat} (hd : decode u.2.1 pc = .ok (.anewarray i, 3)) (hw : Cond.classLink u.1.cls i "EvenFerry$State" ∈ am_big) (hao : ∀ s, w.2.2.2.2 s → va_AO "EvenFerry$State" s) (hn : ¬ n < 0) (hN' : n.toNatClampNeg = N) (hb : N ≤ 100000000) (kk : Ev w Z u d (pc + 3) lv (.ref (hZ h) :: st) (nA h 15 N) Q) : Ev w Z u d pc lv (.int n :: st) h Q := by
  refine Ev.goN (h1 := nA h 15 N) (n := N) rfl rfl (fun C H locs cells slots ls QQ g1 g2 hq hl kk => ?_) kk
  rename_i p l e R s m args below meth c mc ms
  obtain ⟨hx, hb', -, -, -, hown, -, hts, hKw, -⟩ := id C
  subst hN'
  refine W.anew hx hb' hown (hts _ hw) (va_AO.use (hao s hKw.2.2.1)) rfl hd rfl hn (by omega) g1 g2 fun cA kA comp f1 f2 f3 f4 => ?_
  generalize hH1 : H.push ({ cls := cA, slots := Array.replicate n.toNatClampNeg .null, vm := .none } : Cell) = H1
  have z1 : H1.size = hZ h + 1 := by rw [← hH1, Array.size_push, hq.1]
  have e1 : H1[hZ h]? = some (arrV cA n.toNatClampNeg (fun _ => .null)) := by rw [← hH1, ← hq.1, Array.getElem?_push_size, ← arrV_new]
  have o1 : ∀ q : Nat, q < hZ h → H1[q]? = H[q]? := fun q hl => by rw [← hH1, Array.getElem?_push, if_neg (by rw [hq.1]; exact Nat.ne_of_lt hl)]
  obtain ⟨-, -, -, -, -, k4⟩ := (hKw.arr (k := 15) (by decide) (by decide)).2
  have hcA : cA = w.2.1 15 := Option.some.inj (f1.symm.trans k4)
  subst hcA
  rw [hq.1]
  refine kk H1 (hq.born (k := 15) z1 o1 rfl rfl (fun b hb => va_up_ne _ _ hb) (fun b j t hb => am_val_nA _ _ _ hb j t) ?_)
  have hk1 : hK (nA h 15 n.toNatClampNeg) (hZ h) = 15 := va_up_self _ _ _
  have hn1 : hN (nA h 15 n.toNatClampNeg) (hZ h) = n.toNatClampNeg := va_up_self _ _ _
  unfold am_at
  rw [hk1, hn1, if_neg (by omega), e1]
  congr 2
  funext j
  simp [am_val, am_et, nA, hR, va_up_self, am_o]
/-! ends -/
theorem Ev.iret {v : Int32} (rt : FieldType) (hd : decode u.2.1 pc = .ok (.ireturn, 1)) (hr : u.2.2.2 = some rt) (hn : narrow rt (.int v) = .int v) (hQ : Q (some (.int v)) h) : Ev w (am_Z w) u d pc lv [.int v] h Q := by
  refine ⟨_, h, hQ, Nat.le_refl _, Nat.le_refl _, fun p l e R s m args below meth c mc ms C H locs cells slots ls hq hl hf hc hs => ?_⟩
  have ec : cells = mc := by omega
  have es : slots = ms := by omega
  subst ec; subst es
  exact W.zret C.1 C.2.1 (C.2.2.1.trans hr) hn (fun t ht _ => ⟨rfl, by rw [ht]; exact hq⟩) hf hd C.2.2.2.1
theorem Ev.lret {v : Int64} (hd : decode u.2.1 pc = .ok (.lreturn, 1)) (hr : u.2.2.2 = some .long) (hQ : Q (some (.long v)) h) : Ev w (am_Z w) u d pc lv [.long v] h Q := by
  refine ⟨_, h, hQ, Nat.le_refl _, Nat.le_refl _, fun p l e R s m args below meth c mc ms C H locs cells slots ls hq hl hf hc hs => ?_⟩
  have ec : cells = mc := by omega
  have es : slots = ms := by omega
  subst ec; subst es
  exact W.lret C.1 C.2.1 (C.2.2.1.trans hr) (fun t ht _ => ⟨rfl, by rw [ht]; exact hq⟩) hf hd C.2.2.2.1
theorem Ev.vret (hd : decode u.2.1 pc = .ok (.return_, 1)) (hr : u.2.2.2 = none) (hQ : Q none h) : Ev w (am_Z w) u d pc lv [] h Q := by
  refine ⟨_, h, hQ, Nat.le_refl _, Nat.le_refl _, fun p l e R s m args below meth c mc ms C H locs cells slots ls hq hl hf hc hs => ?_⟩
  have ec : cells = mc := by omega
  have es : slots = ms := by omega
  subst ec; subst es
  exact W.vret C.1 C.2.1 (C.2.2.1.trans hr) (fun t ht _ => ⟨rfl, by rw [ht]; exact hq⟩) hf hd C.2.2.2.1
theorem Ev.aret {v : Nat} (n : FieldType) (hn : (∃ x, n = .object x) ∨ ∃ x, n = .array x) (hd : decode u.2.1 pc = .ok (.areturn, 1)) (hr : u.2.2.2 = some n) (hQ : Q (some (.ref v)) h) : Ev w (am_Z w) u d pc lv [.ref v] h Q := by
  refine ⟨_, h, hQ, Nat.le_refl _, Nat.le_refl _, fun p l e R s m args below meth c mc ms C H locs cells slots ls hq hl hf hc hs => ?_⟩
  have ec : cells = mc := by omega
  have es : slots = ms := by omega
  subst ec; subst es
  exact W.aret C.1 C.2.1 (C.2.2.1.trans hr) hn (Or.inr ⟨v, rfl⟩) (fun t ht _ => ⟨rfl, by rw [ht]; exact hq⟩) hf hd C.2.2.2.1
end NEW
end
section
/-! Calls over the picture. -/
def am_ws (u : am_M) : List Cond := Cond.code u.1 u.2.1 u.2.2.1 u.2.2.2 :: am_big
def am_rm (d c s : Nat) : Room := { frames := d, cells := c, slots := s, locals := 100 * d }
def am_P (w : am_W) (As : List Value) (h : am_H) : Array Value → State → Prop := va_Pc As (fun U => am_R w h U.heap ∧ am_Kw w U)
def am_Qc (w : am_W) (r : Option Value) (h' : am_H) : Array Value → State → Outcome → State → Prop := fun _ _ o t => o = .returned r ∧ am_R w h' t.heap
theorem am_P.blind {w : am_W} {As : List Value} {h : am_H} : FrameBlind (am_P w As h) := fun a U g mk q => ⟨q.1, q.2.1, q.2.2.calling⟩
/-- a method that may be called: its code and its class's being there are words; its name is an ordinary one; n arguments beside the object -/
def am_ok (u : am_M) (n : Nat) : Prop := Cond.code u.1 u.2.1 u.2.2.1 u.2.2.2 ∈ am_big ∧ Cond.initialized u.1.cls ∈ am_big ∧ plainName u.1.cls = true ∧ (u.1.cls ≠ "java/lang/invoke/MethodHandle" ∧ u.1.cls ≠ "java/lang/invoke/VarHandle" ∧ (parseMethodDescriptor u.1.desc).map (fun d => d.parameters.length) = some n) ∧ u.2.2.1 ≤ 60
theorem am_good {u : am_M} {n : Nat} (o : am_ok u n) : GoodIn am_big (am_ws u) := fun x hx => by
  rcases List.mem_cons.mp hx with rfl | hx
  · exact ⟨o.1, am_big_good o.1⟩
  · exact ⟨hx, am_big_good hx⟩
theorem EvM.met {w : am_W} {u : am_M} {d : Nat} {As : List Value} {h : am_H} {Q : Option Value → am_H → Prop} (hy : plainName u.1.cls = true) (hfit : (lg_sl As).length ≤ u.2.2.1) (k : EvM w u d As h Q) :
    ∃ (r : Option Value) (h' : am_H), Q r h' ∧ hZ h ≤ hZ h' ∧ hS h ≤ hS h' ∧ ∀ l : Launch, l.stackTraces = false → Met l u.1 (am_ws u) (am_rm d (hZ h' - hZ h) (hS h' - hS h)) (am_P w As h) (am_Qc w r h') (hZ h' - hZ h) (hS h' - hS h) (fun q => w.2.2.1 ≤ q) := by
  obtain ⟨r, h', q, z, s', g⟩ := k
  refine ⟨r, h', q, z, s', fun l hl => ?_⟩
  refine Met.ofW (cc := u.2.1) (maxL := u.2.2.1) (ret := u.2.2.2) hy rfl ?_
  intro p e s m args below meth c s₁ B hml hv
  obtain ⟨rfl, hR0, hK0⟩ := hv
  have hts := atoms_spec (ws := am_ws u) B.pre
  have hown : s.vm.findClass u.1.cls = some m.cls := findClass_of_methodNamed B.named
  have hl0 := lv_entry As (n := u.2.2.1) hfit
  rw [lg_entry_eq]
  exact g p l e _ s m _ below meth c (hZ h' - hZ h) (hS h' - hS h) ⟨B.exec, B.bytes, B.returns, B.notSynchronized, hml, hown, (name_of_methodNamed B.named B.method).1, fun x hx => hts x (List.mem_cons_of_mem _ hx), hK0, Nat.le_refl _, Nat.le_refl _, Nat.le_refl _, Nat.le_refl _, hl⟩ s.heap [] 0 0 _ hR0 hl0 (fun q hq => by cases hq) (by omega) (by omega)
section CALL
variable {w : am_W} {Z : am_Zt} {u v : am_M} {d pc i n : Nat} {lv : List (Nat × Value)} {st st0 As : List Value} {h : am_H} {Q : Option Value → am_H → Prop}
theorem Ev.call0 (o : am_ok v n) (hfit : (lg_sl As).length ≤ v.2.2.1) (k : EvM w v d As h (fun r h1 => Ev w Z u (d + 1) (pc + 3) lv (r.toList ++ st) h1 Q))
    (run : ∀ {p : Program} {l : Launch} {e : Env} {R : Room} {s : State} {m : MethodId} {args : Array Value} {below : List Frame} {meth : Method} {c : Code} {mc ms : Nat}, am_C w u (d + 1) p l R s m args meth c mc ms → ∀ {H : Heap} {locs : List Loc} {cells slots : Nat} {ls : Array Slot} {r : Option Value} {h1 : am_H}, am_R w h H → lv_has ls u.2.2.1 lv →
      (cells + (hZ h1 - hZ h) ≤ R.cells ∧ slots + (hS h1 - hS h) ≤ R.slots) → Met l v.1 (am_ws v) (am_rm d (hZ h1 - hZ h) (hS h1 - hS h)) (am_P w As h) (am_Qc w r h1) (hZ h1 - hZ h) (hS h1 - hS h) (fun q => w.2.2.1 ≤ q) →
      va_Run p l e R s m args below meth c H locs cells slots (hZ h1 - hZ h) (hS h1 - hS h) (F0 m pc ls st0) st (am_Qc w r h1 #[]) (fun q => w.2.2.1 ≤ q)) : Ev w Z u (d + 1) pc lv st0 h Q := by
  obtain ⟨r, h1, ⟨r2, h2, q, z2, s2, g2⟩, z1, s1, hM⟩ := EvM.met o.2.2.1 hfit k
  refine ⟨r2, h2, q, by omega, by omega, fun p l e R s m args below meth c mc ms C H locs cells slots ls hq hl hf hc hs => ?_⟩
  obtain ⟨-, -, -, -, -, -, -, -, -, -, -, hmc, hms, htr⟩ := id C
  intro T hT X
  obtain ⟨v', st₀, t, T', L, h0, X', hL, e1, e2, ⟨hv, hR1⟩, stp⟩ := run (e := e) (below := below) C hq hl ⟨by omega, by omega⟩ (hM l htr) T hT X
  cases hv
  obtain ⟨t2, a1, b1⟩ := g2 p l e R s m args below meth c mc ms C t.heap (locs ++ L) _ _ ls hR1 hl (fun q hq => (List.mem_append.mp hq).elim (hf q) (hL q)) (by omega) (by omega) T' e1 X'
  exact ⟨t2, stp t2 a1, b1⟩
theorem am_preS {s : State} {H : Heap} (hK0 : am_Kw w s) (hq : am_R w h H) : PreS s H (am_P w As h) As := ⟨am_P.blind, fun U hU hW => ⟨rfl, by rw [hU]; exact hq, hK0.warm hW⟩⟩
theorem am_R.recv {w : am_W} {h : am_H} {H : Heap} {s : State} (hq : am_R w h H) (hK0 : am_Kw w s) {a ci : Nat} (hc : ci < 11) (ha : hK h a = ci) : ∃ cell : Cell, H[a]? = some cell ∧ cell.vm.isStatics = false ∧ s.vm.findClass (am_cn ci) = some cell.cls := by
  obtain ⟨cell, q1, q2, q3, -⟩ := hq.obj ha hc
  exact ⟨cell, q1, by rw [q3]; rfl, by rw [q2]; exact (hK0.1.1 ci _ (am_vw ci hc)).2.1⟩
theorem am_hR {R : Room} (C1 : d + 1 ≤ R.frames) (C2 : 100 * (d + 1) ≤ R.locals) (hv : v.2.2.1 ≤ 60) (c s : Nat) : (am_rm d c s).frames + 1 ≤ R.frames ∧ 8 + (v.2.2.1 + 11) + (am_rm d c s).locals ≤ R.locals := by
  refine ⟨C1, ?_⟩
  show 8 + (v.2.2.1 + 11) + 100 * d ≤ R.locals
  omega
/-- a static method -/
theorem Ev.callS (o : am_ok v n) (hst : Cond.static v.1 ∈ am_big) (hl : Cond.methodLink u.1.cls i v.1 ∈ am_big) (hd : decode u.2.1 pc = .ok (.invokestatic i, 3)) (hn : As.length = n) (hs : st0 = As.reverse ++ st) (hfit : (lg_sl As).length ≤ v.2.2.1) (hrm : (st.map fun x => x.category).sum ≤ 8) (k : EvM w v d As h (fun r h1 => Ev w Z u (d + 1) (pc + 3) lv (r.toList ++ st) h1 Q)) : Ev w Z u (d + 1) pc lv st0 h Q := by
  refine Ev.call0 o hfit k (fun C _ _ _ _ _ _ _ hq hlv hf hM => ?_)
  obtain ⟨hx, hb, -, -, hml, hown, -, hts, hKw, hfr, hlo, -⟩ := id C
  exact va_runS (As := As) ⟨hx, hb, hml, hown, hts⟩ hM ⟨callB_of n hts (am_good o) rfl rfl rfl (hts _ o.2.1) (hts _ hl) o.2.2.2.1 (am_hR hfr hlo o.2.2.2.2 _ _), hts _ hst⟩ (am_preS hKw hq) rfl hn hlv.1 hs (lv_room hrm) hd hf
/-- a private static method of a nest mate -/
theorem Ev.callSN {host : String} (o : am_ok v n) (hst : Cond.static v.1 ∈ am_big) (hl : Cond.methodLinkNest u.1.cls i v.1 host ∈ am_nest) (hd : decode u.2.1 pc = .ok (.invokestatic i, 3)) (hn : As.length = n) (hs : st0 = As.reverse ++ st) (hfit : (lg_sl As).length ≤ v.2.2.1) (hrm : (st.map fun x => x.category).sum ≤ 8) (k : EvM w v d As h (fun r h1 => Ev w Z u (d + 1) (pc + 3) lv (r.toList ++ st) h1 Q)) : Ev w Z u (d + 1) pc lv st0 h Q := by
  refine Ev.call0 o hfit k (fun C _ _ _ _ _ _ _ hq hlv hf hM => ?_)
  obtain ⟨hx, hb, -, -, hml, hown, -, hts, hKw, hfr, hlo, -⟩ := id C
  exact va_runSN (As := As) ⟨hx, hb, hml, hown, hts⟩ hM ⟨va_cnB n hts (am_good o) rfl rfl rfl (hKw.2.1 _ hl) (hts _ o.2.1) o.2.2.2.1 (am_hR hfr hlo o.2.2.2.2 _ _), hts _ hst, trivial⟩ (am_preS hKw hq) rfl hn hlv.1 hs (lv_room hrm) hd hf
/-- a method of an object -/
theorem Ev.callV {a ci : Nat} (o : am_ok v n) (hin : Cond.instanceMethod v.1 ∈ am_big) (hse : Cond.selects (am_cn ci) v.1 v.1 ∈ am_big) (hl : Cond.methodLink u.1.cls i v.1 ∈ am_big) (hd : decode u.2.1 pc = .ok (.invokevirtual i, 3)) (hc : ci < 11) (hn : As.length = n) (hs : st0 = As.reverse ++ .ref a :: st) (hfit : (lg_sl (.ref a :: As)).length ≤ v.2.2.1) (hrm : (st.map fun x => x.category).sum ≤ 8) (ha : hK h a = ci) (k : EvM w v d (.ref a :: As) h (fun r h1 => Ev w Z u (d + 1) (pc + 3) lv (r.toList ++ st) h1 Q)) : Ev w Z u (d + 1) pc lv st0 h Q := by
  refine Ev.call0 o hfit k (fun C _ _ _ _ _ _ _ hq hlv hf hM => ?_)
  obtain ⟨hx, hb, -, -, hml, hown, -, hts, hKw, hfr, hlo, -⟩ := id C
  exact va_runV (C := am_cn ci) (As := As) ⟨hx, hb, hml, hown, hts⟩ hM ⟨callB_of n hts (am_good o) rfl rfl rfl (hts _ o.2.1) (hts _ hl) o.2.2.2.1 (am_hR hfr hlo o.2.2.2.2 _ _), hts _ hin, hts _ hse⟩ ⟨am_P.blind, hq.recv hKw hc ha, (am_preS hKw hq).2⟩ rfl hn hlv.1 hs (lv_room hrm) hd hf
/-- a constructor -/
theorem Ev.callI {a : Nat} (o : am_ok v n) (hin : Cond.instanceMethod v.1 ∈ am_big) (hnm : v.1.name = "<init>") (hret : v.2.2.2 = none) (hl : Cond.methodLink u.1.cls i v.1 ∈ am_big) (hd : decode u.2.1 pc = .ok (.invokespecial i, 3)) (hn : As.length = n) (hs : st0 = As.reverse ++ .ref a :: st) (hfit : (lg_sl (.ref a :: As)).length ≤ v.2.2.1) (hrm : (st.map fun x => x.category).sum ≤ 8) (k : EvM w v d (.ref a :: As) h (fun r h1 => Ev w Z u (d + 1) (pc + 3) lv (r.toList ++ st) h1 Q)) : Ev w Z u (d + 1) pc lv st0 h Q := by
  refine Ev.call0 o hfit k (fun C _ _ _ _ _ _ _ hq hlv hf hM => ?_)
  obtain ⟨hx, hb, -, -, hml, hown, -, hts, hKw, hfr, hlo, -⟩ := id C
  exact va_runI (As := As) ⟨hx, hb, hml, hown, hts⟩ hM ⟨callB_of (y := v.1) (bytes := v.2.1) (maxL := v.2.2.1) n hts (am_good o) (by rw [am_ws, hret]) rfl rfl (hts _ o.2.1) (hts _ hl) o.2.2.2.1 (am_hR hfr hlo o.2.2.2.2 _ _), hnm, hts _ hin⟩ (am_preS hKw hq) rfl hn hlv.1 hs (lv_room hrm) hd hf
/-- a private constructor of a nest mate -/
theorem Ev.callIN {a : Nat} {host : String} (o : am_ok v n) (hin : Cond.instanceMethod v.1 ∈ am_big) (hnm : v.1.name = "<init>") (hret : v.2.2.2 = none) (hl : Cond.methodLinkNest u.1.cls i v.1 host ∈ am_nest) (hd : decode u.2.1 pc = .ok (.invokespecial i, 3)) (hn : As.length = n) (hs : st0 = As.reverse ++ .ref a :: st) (hfit : (lg_sl (.ref a :: As)).length ≤ v.2.2.1) (hrm : (st.map fun x => x.category).sum ≤ 8) (k : EvM w v d (.ref a :: As) h (fun r h1 => Ev w Z u (d + 1) (pc + 3) lv (r.toList ++ st) h1 Q)) : Ev w Z u (d + 1) pc lv st0 h Q := by
  refine Ev.call0 o hfit k (fun C _ _ _ _ _ _ _ hq hlv hf hM => ?_)
  obtain ⟨hx, hb, -, -, hml, hown, -, hts, hKw, hfr, hlo, -⟩ := id C
  exact va_runIN (As := As) ⟨hx, hb, hml, hown, hts⟩ hM ⟨va_cnB (y := v.1) (bytes := v.2.1) (maxL := v.2.2.1) n hts (am_good o) (by rw [am_ws, hret]) rfl rfl (hKw.2.1 _ hl) (hts _ o.2.1) o.2.2.2.1 (am_hR hfr hlo o.2.2.2.2 _ _), hnm, hts _ hin⟩ (am_preS hKw hq) rfl hn hlv.1 hs (lv_room hrm) hd hf
/-- Object's constructor -/
theorem Ev.objI {a : Nat} (hl : Cond.methodLink u.1.cls i Lib.objectInit ∈ am_big) (hin : Cond.instanceMethod Lib.objectInit ∈ am_big) (hc : Cond.code Lib.objectInit ⟨#[0xb1]⟩ 1 none ∈ am_big) (hd : decode u.2.1 pc = .ok (.invokespecial i, 3)) (hrm : (st.map fun x => x.category).sum ≤ 8) (k : Ev w Z u (d + 1) (pc + 3) lv st h Q) : Ev w Z u (d + 1) pc lv (.ref a :: st) h Q := by
  refine Ev.go1 (fun C _ _ _ _ _ _ hq hlv kk => ?_) k
  obtain ⟨hx, hb, -, -, hml, hown, -, hts, hKw, hfr, hlo, -⟩ := id C
  refine W.objInit hx hb hown (hts _ hl) (hts _ hin) (hts _ hc) rfl (hlv.1.trans hml.symm) rfl hd (by omega) ?_ kk
  have := lv_room (m := default) (pc := 0) (ls := #[]) (rest := []) hrm
  show 2 * JFrame.monitorRoom (F0 _ _ _ _) + _ + 12 ≤ _
  simp [JFrame.monitorRoom]
  omega
end CALL
end
