/-! Rows of the methods that touch strings, of the JDK's own that they call, of a copied row, of Parser.read (laid by gen2.py). -/
def mJ0_coder_7d493 : am_M := (yJ0_coder_7d493, cJ0_coder_7d493, 1, (some .byte))
def mJ0_length_8abf5 : am_M := (yJ0_length_8abf5, cJ0_length_8abf5, 1, (some .int))
def mJ0_isLatin1_aae02 : am_M := (yJ0_isLatin1_aae02, cJ0_isLatin1_aae02, 1, (some .boolean))
def mJ1_charAt_3b067 : am_M := (yJ1_charAt_3b067, cJ1_charAt_3b067, 2, (some .char))
def mJ0_charAt_5068e : am_M := (yJ0_charAt_5068e, cJ0_charAt_5068e, 2, (some .char))
def mJ1_canEncode_9a6ad : am_M := (yJ1_canEncode_9a6ad, cJ1_canEncode_9a6ad, 1, (some .boolean))
def mJ1_indexOfChar_4cfef : am_M := (yJ1_indexOfChar_4cfef, cJ1_indexOfChar_4cfef, 6, (some .int))
def mJ1_indexOf_4cfef : am_M := (yJ1_indexOf_4cfef, cJ1_indexOf_4cfef, 4, (some .int))
def mJ0_indexOf_7cf53 : am_M := (yJ0_indexOf_7cf53, cJ0_indexOf_7cf53, 3, (some .int))
def mJ0_indexOf_0f7a4 : am_M := (yJ0_indexOf_0f7a4, cJ0_indexOf_0f7a4, 2, (some .int))
def mJ7_copyOf_59c91 : am_M := (yJ7_copyOf_59c91, cJ7_copyOf_59c91, 3, (some (.array .int)))
def mJ0_checkIndex_df160 : am_M := (yJ0_checkIndex_df160, cJ0_checkIndex_df160, 2, none)
def mJ3_checkIndex_8e157 : am_M := (yJ3_checkIndex_8e157, cJ3_checkIndex_8e157, 3, (some .int))
def mJ2_charAt_3b067 : am_M := (yJ2_charAt_3b067, cJ2_charAt_3b067, 2, (some .char))
def mJ2_indexOf_4cfef : am_M := (yJ2_indexOf_4cfef, cJ2_indexOf_4cfef, 4, (some .int))
def tJ0_coder_7d493 : List (Nat × Instr × Nat) := [(0, .getstatic 38, 3), (3, .ifCond .eq 10, 3), (6, .aload_n 0, 1), (7, .getfield 15, 3), (10, .goto 4, 3), (13, .iconst 1, 1), (14, .ireturn, 1)]
set_option maxRecDepth 100000 in
theorem kJ0_coder_7d493 : tJ0_coder_7d493.all (fun q => decide (decode cJ0_coder_7d493 q.1 = .ok q.2)) = true := by decide +kernel
def tJ0_length_8abf5 : List (Nat × Instr × Nat) := [(0, .aload_n 0, 1), (1, .getfield 9, 3), (4, .arraylength, 1), (5, .aload_n 0, 1), (6, .invokevirtual 335, 3), (9, .ishr, 1), (10, .ireturn, 1)]
set_option maxRecDepth 100000 in
theorem kJ0_length_8abf5 : tJ0_length_8abf5.all (fun q => decide (decode cJ0_length_8abf5 q.1 = .ok q.2)) = true := by decide +kernel
def tJ0_isLatin1_aae02 : List (Nat × Instr × Nat) := [(0, .getstatic 38, 3), (3, .ifCond .eq 14, 3), (6, .aload_n 0, 1), (7, .getfield 15, 3), (10, .ifCond .ne 7, 3), (13, .iconst 1, 1), (14, .goto 4, 3), (17, .iconst 0, 1), (18, .ireturn, 1)]
set_option maxRecDepth 100000 in
theorem kJ0_isLatin1_aae02 : tJ0_isLatin1_aae02.all (fun q => decide (decode cJ0_isLatin1_aae02 q.1 = .ok q.2)) = true := by decide +kernel
def tJ1_charAt_3b067 : List (Nat × Instr × Nat) := [(0, .iload_n 1, 1), (1, .aload_n 0, 1), (2, .arraylength, 1), (3, .invokestatic 9, 3), (6, .aload_n 0, 1), (7, .iload_n 1, 1), (8, .baload, 1), (9, .sipush 255, 3), (12, .iand, 1), (13, .i2c, 1), (14, .ireturn, 1)]
set_option maxRecDepth 100000 in
theorem kJ1_charAt_3b067 : tJ1_charAt_3b067.all (fun q => decide (decode cJ1_charAt_3b067 q.1 = .ok q.2)) = true := by decide +kernel
def tJ0_charAt_5068e : List (Nat × Instr × Nat) := [(0, .aload_n 0, 1), (1, .invokevirtual 492, 3), (4, .ifCond .eq 12, 3), (7, .aload_n 0, 1), (8, .getfield 9, 3), (11, .iload_n 1, 1), (12, .invokestatic 495, 3), (15, .ireturn, 1), (16, .aload_n 0, 1), (17, .getfield 9, 3), (20, .iload_n 1, 1), (21, .invokestatic 498, 3), (24, .ireturn, 1)]
set_option maxRecDepth 100000 in
theorem kJ0_charAt_5068e : tJ0_charAt_5068e.all (fun q => decide (decode cJ0_charAt_5068e q.1 = .ok q.2)) = true := by decide +kernel
def tJ1_canEncode_9a6ad : List (Nat × Instr × Nat) := [(0, .iload_n 0, 1), (1, .ifCond .lt 14, 3), (4, .iload_n 0, 1), (5, .sipush 255, 3), (8, .if_icmp .gt 7, 3), (11, .iconst 1, 1), (12, .goto 4, 3), (15, .iconst 0, 1), (16, .ireturn, 1)]
set_option maxRecDepth 100000 in
theorem kJ1_canEncode_9a6ad : tJ1_canEncode_9a6ad.all (fun q => decide (decode cJ1_canEncode_9a6ad q.1 = .ok q.2)) = true := by decide +kernel
def tJ1_indexOfChar_4cfef : List (Nat × Instr × Nat) := [(0, .iload_n 1, 1), (1, .i2b, 1), (2, .istore 4, 2), (4, .iload_n 2, 1), (5, .istore 5, 2), (7, .iload 5, 2), (9, .iload_n 3, 1), (10, .if_icmp .ge 21, 3), (13, .aload_n 0, 1), (14, .iload 5, 2), (16, .baload, 1), (17, .iload 4, 2), (19, .if_icmp .ne 6, 3), (22, .iload 5, 2), (24, .ireturn, 1), (25, .iinc 5 1, 3), (28, .goto (-21), 3), (31, .iconst (-1), 1), (32, .ireturn, 1)]
set_option maxRecDepth 100000 in
theorem kJ1_indexOfChar_4cfef : tJ1_indexOfChar_4cfef.all (fun q => decide (decode cJ1_indexOfChar_4cfef q.1 = .ok q.2)) = true := by decide +kernel
def tJ1_indexOf_4cfef : List (Nat × Instr × Nat) := [(0, .iload_n 1, 1), (1, .invokestatic 88, 3), (4, .ifCond .ne 5, 3), (7, .iconst (-1), 1), (8, .ireturn, 1), (9, .iload_n 2, 1), (10, .iconst 0, 1), (11, .invokestatic 92, 3), (14, .istore_n 2, 1), (15, .iload_n 3, 1), (16, .aload_n 0, 1), (17, .arraylength, 1), (18, .invokestatic 38, 3), (21, .istore_n 3, 1), (22, .iload_n 2, 1), (23, .iload_n 3, 1), (24, .if_icmp .lt 5, 3), (27, .iconst (-1), 1), (28, .ireturn, 1), (29, .aload_n 0, 1), (30, .iload_n 1, 1), (31, .iload_n 2, 1), (32, .iload_n 3, 1), (33, .invokestatic 95, 3), (36, .ireturn, 1)]
set_option maxRecDepth 100000 in
theorem kJ1_indexOf_4cfef : tJ1_indexOf_4cfef.all (fun q => decide (decode cJ1_indexOf_4cfef q.1 = .ok q.2)) = true := by decide +kernel
def tJ0_indexOf_7cf53 : List (Nat × Instr × Nat) := [(0, .aload_n 0, 1), (1, .invokevirtual 492, 3), (4, .ifCond .eq 19, 3), (7, .aload_n 0, 1), (8, .getfield 9, 3), (11, .iload_n 1, 1), (12, .iload_n 2, 1), (13, .aload_n 0, 1), (14, .invokevirtual 505, 3), (17, .invokestatic 637, 3), (20, .goto 16, 3), (23, .aload_n 0, 1), (24, .getfield 9, 3), (27, .iload_n 1, 1), (28, .iload_n 2, 1), (29, .aload_n 0, 1), (30, .invokevirtual 505, 3), (33, .invokestatic 640, 3), (36, .ireturn, 1)]
set_option maxRecDepth 100000 in
theorem kJ0_indexOf_7cf53 : tJ0_indexOf_7cf53.all (fun q => decide (decode cJ0_indexOf_7cf53 q.1 = .ok q.2)) = true := by decide +kernel
def tJ0_indexOf_0f7a4 : List (Nat × Instr × Nat) := [(0, .aload_n 0, 1), (1, .iload_n 1, 1), (2, .iconst 0, 1), (3, .invokevirtual 633, 3), (6, .ireturn, 1)]
set_option maxRecDepth 100000 in
theorem kJ0_indexOf_0f7a4 : tJ0_indexOf_0f7a4.all (fun q => decide (decode cJ0_indexOf_0f7a4 q.1 = .ok q.2)) = true := by decide +kernel
def tJ7_copyOf_59c91 : List (Nat × Instr × Nat) := [(0, .iload_n 1, 1), (1, .aload_n 0, 1), (2, .arraylength, 1), (3, .if_icmp .ne 11, 3), (6, .aload_n 0, 1), (7, .invokevirtual 316, 3), (10, .checkcast 317, 3), (13, .areturn, 1), (14, .iload_n 1, 1), (15, .newarray .int, 2), (17, .astore_n 2, 1), (18, .aload_n 0, 1), (19, .iconst 0, 1), (20, .aload_n 2, 1), (21, .iconst 0, 1), (22, .aload_n 0, 1), (23, .arraylength, 1), (24, .iload_n 1, 1), (25, .invokestatic 304, 3), (28, .invokestatic 150, 3), (31, .aload_n 2, 1), (32, .areturn, 1)]
set_option maxRecDepth 100000 in
theorem kJ7_copyOf_59c91 : tJ7_copyOf_59c91.all (fun q => decide (decode cJ7_copyOf_59c91 q.1 = .ok q.2)) = true := by decide +kernel
def tJ0_checkIndex_df160 : List (Nat × Instr × Nat) := [(0, .iload_n 0, 1), (1, .iload_n 1, 1), (2, .getstatic 1053, 3), (5, .invokestatic 1059, 3), (8, .pop, 1), (9, .return_, 1)]
set_option maxRecDepth 100000 in
theorem kJ0_checkIndex_df160 : tJ0_checkIndex_df160.all (fun q => decide (decode cJ0_checkIndex_df160 q.1 = .ok q.2)) = true := by decide +kernel
def tJ3_checkIndex_8e157 : List (Nat × Instr × Nat) := [(0, .iload_n 0, 1), (1, .ifCond .lt 8, 3), (4, .iload_n 0, 1), (5, .iload_n 1, 1), (6, .if_icmp .lt 10, 3), (9, .aload_n 2, 1), (10, .iload_n 0, 1), (11, .iload_n 1, 1), (12, .invokestatic 95, 3), (15, .athrow, 1), (16, .iload_n 0, 1), (17, .ireturn, 1)]
set_option maxRecDepth 100000 in
theorem kJ3_checkIndex_8e157 : tJ3_checkIndex_8e157.all (fun q => decide (decode cJ3_checkIndex_8e157 q.1 = .ok q.2)) = true := by decide +kernel
def tJ2_charAt_3b067 : List (Nat × Instr × Nat) := [(0, .iload_n 1, 1), (1, .aload_n 0, 1), (2, .invokestatic 67, 3), (5, .aload_n 0, 1), (6, .iload_n 1, 1), (7, .invokestatic 71, 3), (10, .ireturn, 1)]
set_option maxRecDepth 100000 in
theorem kJ2_charAt_3b067 : tJ2_charAt_3b067.all (fun q => decide (decode cJ2_charAt_3b067 q.1 = .ok q.2)) = true := by decide +kernel
def tJ2_indexOf_4cfef : List (Nat × Instr × Nat) := [(0, .iload_n 2, 1), (1, .iconst 0, 1), (2, .invokestatic 224, 3), (5, .istore_n 2, 1), (6, .iload_n 3, 1), (7, .aload_n 0, 1), (8, .arraylength, 1), (9, .iconst 1, 1), (10, .ishr, 1), (11, .invokestatic 183, 3), (14, .istore_n 3, 1), (15, .iload_n 2, 1), (16, .iload_n 3, 1), (17, .if_icmp .lt 5, 3), (20, .iconst (-1), 1), (21, .ireturn, 1), (22, .iload_n 1, 1), (23, .ldc 227, 2), (25, .if_icmp .ge 11, 3), (28, .aload_n 0, 1), (29, .iload_n 1, 1), (30, .iload_n 2, 1), (31, .iload_n 3, 1), (32, .invokestatic 228, 3), (35, .ireturn, 1), (36, .aload_n 0, 1), (37, .iload_n 1, 1), (38, .iload_n 2, 1), (39, .iload_n 3, 1), (40, .invokestatic 232, 3), (43, .ireturn, 1)]
set_option maxRecDepth 100000 in
theorem kJ2_indexOf_4cfef : tJ2_indexOf_4cfef.all (fun q => decide (decode cJ2_indexOf_4cfef q.1 = .ok q.2)) = true := by decide +kernel
set_option maxRecDepth 100000 in
theorem we_73 : Cond.code yJ0_coder_7d493 cJ0_coder_7d493 1 (some .byte) ∈ am_big := in_big 590 rfl rfl
set_option maxRecDepth 100000 in
theorem we_75 : Cond.code yJ0_length_8abf5 cJ0_length_8abf5 1 (some .int) ∈ am_big := in_big 586 rfl rfl
set_option maxRecDepth 100000 in
theorem we_76 : Cond.code yJ0_isLatin1_aae02 cJ0_isLatin1_aae02 1 (some .boolean) ∈ am_big := in_big 604 rfl rfl
set_option maxRecDepth 100000 in
theorem we_77 : Cond.code yJ1_charAt_3b067 cJ1_charAt_3b067 2 (some .char) ∈ am_big := in_big 607 rfl rfl
set_option maxRecDepth 100000 in
theorem we_79 : Cond.code yJ0_charAt_5068e cJ0_charAt_5068e 2 (some .char) ∈ am_big := in_big 600 rfl rfl
set_option maxRecDepth 100000 in
theorem we_80 : Cond.code yJ1_canEncode_9a6ad cJ1_canEncode_9a6ad 1 (some .boolean) ∈ am_big := in_big 664 rfl rfl
set_option maxRecDepth 100000 in
theorem we_81 : Cond.code yJ1_indexOfChar_4cfef cJ1_indexOfChar_4cfef 6 (some .int) ∈ am_big := in_big 671 rfl rfl
set_option maxRecDepth 100000 in
theorem we_82 : Cond.code yJ1_indexOf_4cfef cJ1_indexOf_4cfef 4 (some .int) ∈ am_big := in_big 661 rfl rfl
set_option maxRecDepth 100000 in
theorem we_83 : Cond.code yJ0_indexOf_7cf53 cJ0_indexOf_7cf53 3 (some .int) ∈ am_big := in_big 657 rfl rfl
set_option maxRecDepth 100000 in
theorem we_84 : Cond.code yJ0_indexOf_0f7a4 cJ0_indexOf_0f7a4 2 (some .int) ∈ am_big := in_big 653 rfl rfl
set_option maxRecDepth 100000 in
theorem we_85 : Cond.code yJ7_copyOf_59c91 cJ7_copyOf_59c91 3 (some (.array .int)) ∈ am_big := in_big 810 rfl rfl
set_option maxRecDepth 100000 in
theorem we_87 : Cond.code yJ0_checkIndex_df160 cJ0_checkIndex_df160 2 none ∈ am_big := in_big 610 rfl rfl
set_option maxRecDepth 100000 in
theorem we_88 : Cond.code yJ3_checkIndex_8e157 cJ3_checkIndex_8e157 3 (some .int) ∈ am_big := in_big 615 rfl rfl
set_option maxRecDepth 100000 in
theorem we_90 : Cond.code yJ2_charAt_3b067 cJ2_charAt_3b067 2 (some .char) ∈ am_big := in_big 618 rfl rfl
set_option maxRecDepth 100000 in
theorem we_92 : Cond.code yJ2_indexOf_4cfef cJ2_indexOf_4cfef 4 (some .int) ∈ am_big := in_big 674 rfl rfl
def wz0 : List Cond := [Cond.fieldLink "java/lang/String" 38 "java/lang/String" "COMPACT_STRINGS" "Z", Cond.fieldLink "java/lang/String" 15 "java/lang/String" "coder" "B", Cond.fieldLink "java/lang/String" 9 "java/lang/String" "value" "[B", Cond.instanceMethod yJ0_coder_7d493, Cond.selects "java/lang/String" yJ0_coder_7d493 yJ0_coder_7d493, Cond.methodLink "java/lang/String" 335 yJ0_coder_7d493, Cond.methodLink "java/lang/StringLatin1" 9 yJ0_checkIndex_df160, Cond.static yJ0_checkIndex_df160, Cond.instanceMethod yJ0_isLatin1_aae02, Cond.selects "java/lang/String" yJ0_isLatin1_aae02 yJ0_isLatin1_aae02, Cond.methodLink "java/lang/String" 492 yJ0_isLatin1_aae02, Cond.methodLink "java/lang/String" 498 yJ2_charAt_3b067, Cond.static yJ2_charAt_3b067, Cond.methodLink "java/lang/String" 495 yJ1_charAt_3b067, Cond.static yJ1_charAt_3b067, Cond.methodLink "java/lang/StringLatin1" 88 yJ1_canEncode_9a6ad, Cond.static yJ1_canEncode_9a6ad, Cond.methodLink "java/lang/StringLatin1" 92 Lib.Math.max.name, Cond.methodLink "java/lang/StringLatin1" 38 Lib.Math.min.name, Cond.methodLink "java/lang/StringLatin1" 95 yJ1_indexOfChar_4cfef, Cond.static yJ1_indexOfChar_4cfef, Cond.instanceMethod yJ0_length_8abf5, Cond.selects "java/lang/String" yJ0_length_8abf5 yJ0_length_8abf5, Cond.methodLink "java/lang/String" 505 yJ0_length_8abf5, Cond.methodLink "java/lang/String" 640 yJ2_indexOf_4cfef, Cond.static yJ2_indexOf_4cfef, Cond.methodLink "java/lang/String" 637 yJ1_indexOf_4cfef, Cond.static yJ1_indexOf_4cfef, Cond.instanceMethod yJ0_indexOf_7cf53, Cond.selects "java/lang/String" yJ0_indexOf_7cf53 yJ0_indexOf_7cf53, Cond.methodLink "java/lang/String" 633 yJ0_indexOf_7cf53, Cond.methodLink "java/util/Arrays" 316 ⟨"[I", "clone", "()Ljava/lang/Object;"⟩, Cond.sameMethod "[I" "java/lang/Object" "clone" "()Ljava/lang/Object;", Cond.native ⟨"java/lang/Object", "clone", "()Ljava/lang/Object;"⟩, Cond.instanceMethod ⟨"java/lang/Object", "clone", "()Ljava/lang/Object;"⟩, Cond.selects "[I" ⟨"[I", "clone", "()Ljava/lang/Object;"⟩ ⟨"java/lang/Object", "clone", "()Ljava/lang/Object;"⟩, Cond.classLink "java/util/Arrays" 317 "[I", Cond.methodLink "java/util/Arrays" 304 Lib.Math.min.name, Cond.methodLink "java/util/Arrays" 150 arraycopyName, Cond.native arraycopyName, Cond.static arraycopyName, Cond.initialized "java/lang/System", Cond.methodLink "EvenFerry$Tape" 73 yJ0_length_8abf5, Cond.instanceMethod yJ0_charAt_5068e, Cond.selects "java/lang/String" yJ0_charAt_5068e yJ0_charAt_5068e, Cond.methodLink "EvenFerry$Tape" 80 yJ0_charAt_5068e, Cond.instanceMethod yX8_isWord, Cond.selects "EvenFerry$Tape" yX8_isWord yX8_isWord, Cond.methodLink "EvenFerry$Tape" 76 yX8_isWord, Cond.instanceMethod yX8_add, Cond.selects "EvenFerry$Tape" yX8_add yX8_add, Cond.methodLink "EvenFerry$Tape" 45 yX8_add, Cond.methodLink "EvenFerry$Tape" 62 Lib.Math.max.name, Cond.instanceMethod yJ0_indexOf_0f7a4, Cond.selects "java/lang/String" yJ0_indexOf_0f7a4 yJ0_indexOf_0f7a4, Cond.methodLink "EvenFerry$Tape" 57 yJ0_indexOf_0f7a4, Cond.instanceMethod yX8_endOfNumber, Cond.selects "EvenFerry$Tape" yX8_endOfNumber yX8_endOfNumber, Cond.methodLink "EvenFerry$Tape" 52 yX8_endOfNumber, Cond.instanceMethod yX8_endOfWord]
set_option maxRecDepth 100000 in
theorem wz0_e : wz0 = [591, 1796, 1795, 588, 589, 587, 608, 609, 602, 603, 601, 616, 617, 605, 606, 662, 663, 665, 666, 669, 670, 584, 585, 658, 672, 673, 659, 660, 655, 656, 654, 811, 812, 813, 814, 815, 817, 818, 819, 821, 820, 110, 583, 598, 599, 597, 595, 3, 593, 637, 4, 635, 707, 651, 652, 650, 647, 5, 645, 576].filterMap (fun i => lw_tbl[i]?) := by decide +kernel
set_option maxRecDepth 100000 in
theorem wz0_g : wz0.all goodWord = true := by decide +kernel
theorem wz0_m {x : Cond} (i : Nat) (h : wz0[i]? = some x) : x ∈ am_big := am_wl wz0_e wz0_g (List.mem_of_getElem? h)
theorem we_0 : Cond.fieldLink "java/lang/String" 38 "java/lang/String" "COMPACT_STRINGS" "Z" ∈ am_big := wz0_m 0 rfl
theorem we_1 : Cond.fieldLink "java/lang/String" 15 "java/lang/String" "coder" "B" ∈ am_big := wz0_m 1 rfl
theorem we_2 : Cond.fieldLink "java/lang/String" 9 "java/lang/String" "value" "[B" ∈ am_big := wz0_m 2 rfl
theorem we_3 : Cond.instanceMethod yJ0_coder_7d493 ∈ am_big := wz0_m 3 rfl
theorem we_4 : Cond.selects "java/lang/String" yJ0_coder_7d493 yJ0_coder_7d493 ∈ am_big := wz0_m 4 rfl
theorem we_5 : Cond.methodLink "java/lang/String" 335 yJ0_coder_7d493 ∈ am_big := wz0_m 5 rfl
theorem we_6 : Cond.methodLink "java/lang/StringLatin1" 9 yJ0_checkIndex_df160 ∈ am_big := wz0_m 6 rfl
theorem we_7 : Cond.static yJ0_checkIndex_df160 ∈ am_big := wz0_m 7 rfl
theorem we_8 : Cond.instanceMethod yJ0_isLatin1_aae02 ∈ am_big := wz0_m 8 rfl
theorem we_9 : Cond.selects "java/lang/String" yJ0_isLatin1_aae02 yJ0_isLatin1_aae02 ∈ am_big := wz0_m 9 rfl
theorem we_10 : Cond.methodLink "java/lang/String" 492 yJ0_isLatin1_aae02 ∈ am_big := wz0_m 10 rfl
theorem we_11 : Cond.methodLink "java/lang/String" 498 yJ2_charAt_3b067 ∈ am_big := wz0_m 11 rfl
theorem we_12 : Cond.static yJ2_charAt_3b067 ∈ am_big := wz0_m 12 rfl
theorem we_13 : Cond.methodLink "java/lang/String" 495 yJ1_charAt_3b067 ∈ am_big := wz0_m 13 rfl
theorem we_14 : Cond.static yJ1_charAt_3b067 ∈ am_big := wz0_m 14 rfl
theorem we_15 : Cond.methodLink "java/lang/StringLatin1" 88 yJ1_canEncode_9a6ad ∈ am_big := wz0_m 15 rfl
theorem we_16 : Cond.static yJ1_canEncode_9a6ad ∈ am_big := wz0_m 16 rfl
theorem we_17 : Cond.methodLink "java/lang/StringLatin1" 92 Lib.Math.max.name ∈ am_big := wz0_m 17 rfl
theorem we_18 : Cond.methodLink "java/lang/StringLatin1" 38 Lib.Math.min.name ∈ am_big := wz0_m 18 rfl
theorem we_19 : Cond.methodLink "java/lang/StringLatin1" 95 yJ1_indexOfChar_4cfef ∈ am_big := wz0_m 19 rfl
theorem we_20 : Cond.static yJ1_indexOfChar_4cfef ∈ am_big := wz0_m 20 rfl
theorem we_21 : Cond.instanceMethod yJ0_length_8abf5 ∈ am_big := wz0_m 21 rfl
theorem we_22 : Cond.selects "java/lang/String" yJ0_length_8abf5 yJ0_length_8abf5 ∈ am_big := wz0_m 22 rfl
theorem we_23 : Cond.methodLink "java/lang/String" 505 yJ0_length_8abf5 ∈ am_big := wz0_m 23 rfl
theorem we_24 : Cond.methodLink "java/lang/String" 640 yJ2_indexOf_4cfef ∈ am_big := wz0_m 24 rfl
theorem we_25 : Cond.static yJ2_indexOf_4cfef ∈ am_big := wz0_m 25 rfl
theorem we_26 : Cond.methodLink "java/lang/String" 637 yJ1_indexOf_4cfef ∈ am_big := wz0_m 26 rfl
theorem we_27 : Cond.static yJ1_indexOf_4cfef ∈ am_big := wz0_m 27 rfl
theorem we_28 : Cond.instanceMethod yJ0_indexOf_7cf53 ∈ am_big := wz0_m 28 rfl
theorem we_29 : Cond.selects "java/lang/String" yJ0_indexOf_7cf53 yJ0_indexOf_7cf53 ∈ am_big := wz0_m 29 rfl
theorem we_30 : Cond.methodLink "java/lang/String" 633 yJ0_indexOf_7cf53 ∈ am_big := wz0_m 30 rfl
theorem we_31 : Cond.methodLink "java/util/Arrays" 316 ⟨"[I", "clone", "()Ljava/lang/Object;"⟩ ∈ am_big := wz0_m 31 rfl
theorem we_32 : Cond.sameMethod "[I" "java/lang/Object" "clone" "()Ljava/lang/Object;" ∈ am_big := wz0_m 32 rfl
theorem we_33 : Cond.native ⟨"java/lang/Object", "clone", "()Ljava/lang/Object;"⟩ ∈ am_big := wz0_m 33 rfl
theorem we_34 : Cond.instanceMethod ⟨"java/lang/Object", "clone", "()Ljava/lang/Object;"⟩ ∈ am_big := wz0_m 34 rfl
theorem we_35 : Cond.selects "[I" ⟨"[I", "clone", "()Ljava/lang/Object;"⟩ ⟨"java/lang/Object", "clone", "()Ljava/lang/Object;"⟩ ∈ am_big := wz0_m 35 rfl
theorem we_36 : Cond.classLink "java/util/Arrays" 317 "[I" ∈ am_big := wz0_m 36 rfl
theorem we_37 : Cond.methodLink "java/util/Arrays" 304 Lib.Math.min.name ∈ am_big := wz0_m 37 rfl
theorem we_38 : Cond.methodLink "java/util/Arrays" 150 arraycopyName ∈ am_big := wz0_m 38 rfl
theorem we_39 : Cond.native arraycopyName ∈ am_big := wz0_m 39 rfl
theorem we_40 : Cond.static arraycopyName ∈ am_big := wz0_m 40 rfl
theorem we_41 : Cond.initialized "java/lang/System" ∈ am_big := wz0_m 41 rfl
theorem we_42 : Cond.methodLink "EvenFerry$Tape" 73 yJ0_length_8abf5 ∈ am_big := wz0_m 42 rfl
theorem we_43 : Cond.instanceMethod yJ0_charAt_5068e ∈ am_big := wz0_m 43 rfl
theorem we_44 : Cond.selects "java/lang/String" yJ0_charAt_5068e yJ0_charAt_5068e ∈ am_big := wz0_m 44 rfl
theorem we_45 : Cond.methodLink "EvenFerry$Tape" 80 yJ0_charAt_5068e ∈ am_big := wz0_m 45 rfl
theorem we_46 : Cond.instanceMethod yX8_isWord ∈ am_big := wz0_m 46 rfl
theorem we_47 : Cond.selects "EvenFerry$Tape" yX8_isWord yX8_isWord ∈ am_big := wz0_m 47 rfl
theorem we_48 : Cond.methodLink "EvenFerry$Tape" 76 yX8_isWord ∈ am_big := wz0_m 48 rfl
theorem we_49 : Cond.instanceMethod yX8_add ∈ am_big := wz0_m 49 rfl
theorem we_50 : Cond.selects "EvenFerry$Tape" yX8_add yX8_add ∈ am_big := wz0_m 50 rfl
theorem we_51 : Cond.methodLink "EvenFerry$Tape" 45 yX8_add ∈ am_big := wz0_m 51 rfl
theorem we_52 : Cond.methodLink "EvenFerry$Tape" 62 Lib.Math.max.name ∈ am_big := wz0_m 52 rfl
theorem we_53 : Cond.instanceMethod yJ0_indexOf_0f7a4 ∈ am_big := wz0_m 53 rfl
theorem we_54 : Cond.selects "java/lang/String" yJ0_indexOf_0f7a4 yJ0_indexOf_0f7a4 ∈ am_big := wz0_m 54 rfl
theorem we_55 : Cond.methodLink "EvenFerry$Tape" 57 yJ0_indexOf_0f7a4 ∈ am_big := wz0_m 55 rfl
theorem we_56 : Cond.instanceMethod yX8_endOfNumber ∈ am_big := wz0_m 56 rfl
theorem we_57 : Cond.selects "EvenFerry$Tape" yX8_endOfNumber yX8_endOfNumber ∈ am_big := wz0_m 57 rfl
theorem we_58 : Cond.methodLink "EvenFerry$Tape" 52 yX8_endOfNumber ∈ am_big := wz0_m 58 rfl
theorem we_59 : Cond.instanceMethod yX8_endOfWord ∈ am_big := wz0_m 59 rfl
def wz1 : List Cond := [Cond.selects "EvenFerry$Tape" yX8_endOfWord yX8_endOfWord, Cond.methodLink "EvenFerry$Tape" 37 yX8_endOfWord, Cond.instanceMethod yX8_wordKind, Cond.selects "EvenFerry$Tape" yX8_wordKind yX8_wordKind, Cond.methodLink "EvenFerry$Tape" 41 yX8_wordKind, Cond.instanceMethod yX5_line, Cond.selects "EvenFerry$Parser" yX5_line yX5_line, Cond.methodLink "EvenFerry$Parser" 44 yX5_line, Cond.methodLink "EvenFerry$Parser" 47 Lib.Math.min.name, Cond.methodLink "EvenFerry$Parser" 53 Lib.Math.max.name, Cond.methodLink "EvenFerry$Parser" 56 yJ7_copyOf_59c91, Cond.static yJ7_copyOf_59c91, Cond.fieldLink "EvenFerry$Parser" 62 "EvenFerry$River" "code" "[I", Cond.initialized "java/lang/String", Cond.initialized "java/lang/StringLatin1", Cond.initialized "java/util/Arrays", Cond.initialized "jdk/internal/util/Preconditions", Cond.initialized "java/lang/StringUTF16", Cond.fieldLink "java/lang/String" 1053 "jdk/internal/util/Preconditions" "SIOOBE_FORMATTER" "Ljava/util/function/BiFunction;", Cond.static yJ3_checkIndex_8e157, Cond.methodLink "java/lang/String" 1059 yJ3_checkIndex_8e157]
set_option maxRecDepth 100000 in
theorem wz1_e : wz1 = [1, 574, 580, 2, 578, 718, 7, 716, 806, 807, 808, 809, 189, 104, 105, 109, 106, 107, 611, 614, 613].filterMap (fun i => lw_tbl[i]?) := by decide +kernel
set_option maxRecDepth 100000 in
theorem wz1_g : wz1.all goodWord = true := by decide +kernel
theorem wz1_m {x : Cond} (i : Nat) (h : wz1[i]? = some x) : x ∈ am_big := am_wl wz1_e wz1_g (List.mem_of_getElem? h)
theorem we_60 : Cond.selects "EvenFerry$Tape" yX8_endOfWord yX8_endOfWord ∈ am_big := wz1_m 0 rfl
theorem we_61 : Cond.methodLink "EvenFerry$Tape" 37 yX8_endOfWord ∈ am_big := wz1_m 1 rfl
theorem we_62 : Cond.instanceMethod yX8_wordKind ∈ am_big := wz1_m 2 rfl
theorem we_63 : Cond.selects "EvenFerry$Tape" yX8_wordKind yX8_wordKind ∈ am_big := wz1_m 3 rfl
theorem we_64 : Cond.methodLink "EvenFerry$Tape" 41 yX8_wordKind ∈ am_big := wz1_m 4 rfl
theorem we_65 : Cond.instanceMethod yX5_line ∈ am_big := wz1_m 5 rfl
theorem we_66 : Cond.selects "EvenFerry$Parser" yX5_line yX5_line ∈ am_big := wz1_m 6 rfl
theorem we_67 : Cond.methodLink "EvenFerry$Parser" 44 yX5_line ∈ am_big := wz1_m 7 rfl
theorem we_68 : Cond.methodLink "EvenFerry$Parser" 47 Lib.Math.min.name ∈ am_big := wz1_m 8 rfl
theorem we_69 : Cond.methodLink "EvenFerry$Parser" 53 Lib.Math.max.name ∈ am_big := wz1_m 9 rfl
theorem we_70 : Cond.methodLink "EvenFerry$Parser" 56 yJ7_copyOf_59c91 ∈ am_big := wz1_m 10 rfl
theorem we_71 : Cond.static yJ7_copyOf_59c91 ∈ am_big := wz1_m 11 rfl
theorem we_72 : Cond.fieldLink "EvenFerry$Parser" 62 "EvenFerry$River" "code" "[I" ∈ am_big := wz1_m 12 rfl
theorem we_74 : Cond.initialized "java/lang/String" ∈ am_big := wz1_m 13 rfl
theorem we_78 : Cond.initialized "java/lang/StringLatin1" ∈ am_big := wz1_m 14 rfl
theorem we_86 : Cond.initialized "java/util/Arrays" ∈ am_big := wz1_m 15 rfl
theorem we_89 : Cond.initialized "jdk/internal/util/Preconditions" ∈ am_big := wz1_m 16 rfl
theorem we_91 : Cond.initialized "java/lang/StringUTF16" ∈ am_big := wz1_m 17 rfl
theorem we_93 : Cond.fieldLink "java/lang/String" 1053 "jdk/internal/util/Preconditions" "SIOOBE_FORMATTER" "Ljava/util/function/BiFunction;" ∈ am_big := wz1_m 18 rfl
theorem we_94 : Cond.static yJ3_checkIndex_8e157 ∈ am_big := wz1_m 19 rfl
theorem we_95 : Cond.methodLink "java/lang/String" 1059 yJ3_checkIndex_8e157 ∈ am_big := wz1_m 20 rfl
theorem okJ0_coder_7d493 : am_ok mJ0_coder_7d493 0 := ⟨we_73, we_74, by decide, by decide +kernel, by decide⟩
theorem okJ0_length_8abf5 : am_ok mJ0_length_8abf5 0 := ⟨we_75, we_74, by decide, by decide +kernel, by decide⟩
theorem okJ0_isLatin1_aae02 : am_ok mJ0_isLatin1_aae02 0 := ⟨we_76, we_74, by decide, by decide +kernel, by decide⟩
theorem okJ1_charAt_3b067 : am_ok mJ1_charAt_3b067 2 := ⟨we_77, we_78, by decide, by decide +kernel, by decide⟩
theorem okJ0_charAt_5068e : am_ok mJ0_charAt_5068e 1 := ⟨we_79, we_74, by decide, by decide +kernel, by decide⟩
theorem okJ1_canEncode_9a6ad : am_ok mJ1_canEncode_9a6ad 1 := ⟨we_80, we_78, by decide, by decide +kernel, by decide⟩
theorem okJ1_indexOfChar_4cfef : am_ok mJ1_indexOfChar_4cfef 4 := ⟨we_81, we_78, by decide, by decide +kernel, by decide⟩
theorem okJ1_indexOf_4cfef : am_ok mJ1_indexOf_4cfef 4 := ⟨we_82, we_78, by decide, by decide +kernel, by decide⟩
theorem okJ0_indexOf_7cf53 : am_ok mJ0_indexOf_7cf53 2 := ⟨we_83, we_74, by decide, by decide +kernel, by decide⟩
theorem okJ0_indexOf_0f7a4 : am_ok mJ0_indexOf_0f7a4 1 := ⟨we_84, we_74, by decide, by decide +kernel, by decide⟩
theorem okJ7_copyOf_59c91 : am_ok mJ7_copyOf_59c91 2 := ⟨we_85, we_86, by decide, by decide +kernel, by decide⟩
theorem okJ0_checkIndex_df160 : am_ok mJ0_checkIndex_df160 2 := ⟨we_87, we_74, by decide, by decide +kernel, by decide⟩
theorem okJ3_checkIndex_8e157 : am_ok mJ3_checkIndex_8e157 3 := ⟨we_88, we_89, by decide, by decide +kernel, by decide⟩
theorem okJ2_charAt_3b067 : am_ok mJ2_charAt_3b067 2 := ⟨we_90, we_91, by decide, by decide +kernel, by decide⟩
theorem okJ2_indexOf_4cfef : am_ok mJ2_indexOf_4cfef 4 := ⟨we_92, we_91, by decide, by decide +kernel, by decide⟩
set_option maxRecDepth 20000 in
set_option maxHeartbeats 2000000 in
theorem bJ0_coder_7d493_0 {w : am_W} {d : Nat} {h : am_H} {Q : Option Value → am_H → Prop}   {ad av : Nat → Nat} {sf : Value} (hw : StW w ad av sf) {i : Nat} (hi : i < 2) (k : Q (some (.int 0)) h) : EvM w mJ0_coder_7d493 d [.ref (ad i)] h Q := by
  show Ev w (am_Z w) mJ0_coder_7d493 d 0 [(0, .ref (ad i))] [] h Q
  refine Ev.gCS hw we_0 (am_dt kJ0_coder_7d493 0 rfl) ?_
  refine Ev.if_eq (tgt := 13) (am_dt kJ0_coder_7d493 1 rfl) (by decide) (fun c => ?_) (fun c => ?_)
  · exact absurd c (by decide)
  · refine Ev.aload_n 0 (am_dt kJ0_coder_7d493 2 rfl) rfl rfl ?_
    refine Ev.scod (k := i) hw hi we_1 (am_dt kJ0_coder_7d493 3 rfl) ?_
    refine Ev.goto (tgt := 14) (am_dt kJ0_coder_7d493 4 rfl) (by decide) ?_
    exact Ev.iret .byte (am_dt kJ0_coder_7d493 6 rfl) rfl rfl k
set_option maxRecDepth 20000 in
set_option maxHeartbeats 2000000 in
theorem bJ0_length_8abf5_0 {w : am_W} {d : Nat} {h : am_H} {Q : Option Value → am_H → Prop}   {ad av : Nat → Nat} {sf : Value} (hw : StW w ad av sf) {i : Nat} (hi : i < 2) (k : EvM w mJ0_coder_7d493 d [.ref (ad i)] h (fun r2 h1 => ∃ v3 : Int32, r2 = some (.int v3) ∧ (Q (some (.int ((nI (sLn i)) >>> (v3 &&& 31)))) h1))) : EvM w mJ0_length_8abf5 (d + 1) [.ref (ad i)] h Q := by
  show Ev w (am_Z w) mJ0_length_8abf5 (d + 1) 0 [(0, .ref (ad i))] [] h Q
  refine Ev.aload_n 0 (am_dt kJ0_length_8abf5 0 rfl) rfl rfl ?_
  refine Ev.sval (k := i) hw hi we_2 (am_dt kJ0_length_8abf5 1 rfl) ?_
  refine Ev.blen (k := i) hw hi (am_dt kJ0_length_8abf5 2 rfl) ?_
  refine Ev.aload_n 0 (am_dt kJ0_length_8abf5 3 rfl) rfl rfl ?_
  refine Ev.callVS (k := i) (v := mJ0_coder_7d493) (As := []) (st := [.int (nI (sLn i))]) hw hi okJ0_coder_7d493 we_3 we_4 we_5 (am_dt kJ0_length_8abf5 4 rfl) rfl rfl (Nat.le_of_ble_eq_true rfl) (Nat.le_of_ble_eq_true rfl) ?_
  refine EvM.mono k (fun r2 h1 k => ?_)
  obtain ⟨v3, rfl, k⟩ := k
  show Ev w _ _ _ 9 _ [.int v3, .int (nI (sLn i))] _ _
  refine Ev.ishr (am_dt kJ0_length_8abf5 5 rfl) ?_
  exact Ev.iret .int (am_dt kJ0_length_8abf5 6 rfl) rfl rfl k
set_option maxRecDepth 20000 in
set_option maxHeartbeats 2000000 in
theorem bJ0_isLatin1_aae02_0 {w : am_W} {d : Nat} {h : am_H} {Q : Option Value → am_H → Prop}   {ad av : Nat → Nat} {sf : Value} (hw : StW w ad av sf) {i : Nat} (hi : i < 2) (k : Q (some (.int 1)) h) : EvM w mJ0_isLatin1_aae02 d [.ref (ad i)] h Q := by
  show Ev w (am_Z w) mJ0_isLatin1_aae02 d 0 [(0, .ref (ad i))] [] h Q
  refine Ev.gCS hw we_0 (am_dt kJ0_isLatin1_aae02 0 rfl) ?_
  refine Ev.if_eq (tgt := 17) (am_dt kJ0_isLatin1_aae02 1 rfl) (by decide) (fun c => ?_) (fun c => ?_)
  · exact absurd c (by decide)
  · refine Ev.aload_n 0 (am_dt kJ0_isLatin1_aae02 2 rfl) rfl rfl ?_
    refine Ev.scod (k := i) hw hi we_1 (am_dt kJ0_isLatin1_aae02 3 rfl) ?_
    refine Ev.if_ne (tgt := 17) (am_dt kJ0_isLatin1_aae02 4 rfl) (by decide) (fun c => ?_) (fun c => ?_)
    · exact absurd (by decide) c
    · refine Ev.iconst (v := 1) (am_dt kJ0_isLatin1_aae02 5 rfl) (by decide) ?_
      refine Ev.goto (tgt := 18) (am_dt kJ0_isLatin1_aae02 6 rfl) (by decide) ?_
      exact Ev.iret .boolean (am_dt kJ0_isLatin1_aae02 8 rfl) rfl rfl k
set_option maxRecDepth 20000 in
set_option maxHeartbeats 2000000 in
theorem bJ1_charAt_3b067_0 {w : am_W} {d : Nat} {h : am_H} {Q : Option Value → am_H → Prop} {x1 : Int32}  {ad av : Nat → Nat} {sf : Value} (hw : StW w ad av sf) {i : Nat} (hi : i < 2) (k : EvM w mJ0_checkIndex_df160 d [.int x1, .int (nI (sLn i))] h (fun r2 h1 => r2 = none ∧ ((vp_in x1 (sLn i)) ∧ (narrow .char (.int ((Int32.toUInt32 ((sBy i (Int32.toNatClampNeg x1)) &&& 255) % 65536).toInt32)) = .int ((Int32.toUInt32 ((sBy i (Int32.toNatClampNeg x1)) &&& 255) % 65536).toInt32) ∧ (Q (some (.int ((Int32.toUInt32 ((sBy i (Int32.toNatClampNeg x1)) &&& 255) % 65536).toInt32))) h1))))) : EvM w mJ1_charAt_3b067 (d + 1) [.ref (av i), .int x1] h Q := by
  show Ev w (am_Z w) mJ1_charAt_3b067 (d + 1) 0 [(0, .ref (av i)), (1, .int x1)] [] h Q
  refine Ev.iload_n 1 (am_dt kJ1_charAt_3b067 0 rfl) rfl rfl ?_
  refine Ev.aload_n 0 (am_dt kJ1_charAt_3b067 1 rfl) rfl rfl ?_
  refine Ev.blen (k := i) hw hi (am_dt kJ1_charAt_3b067 2 rfl) ?_
  refine Ev.callS (v := mJ0_checkIndex_df160) (As := [.int x1, .int (nI (sLn i))]) (st := []) okJ0_checkIndex_df160 we_7 we_6 (am_dt kJ1_charAt_3b067 3 rfl) rfl rfl (Nat.le_of_ble_eq_true rfl) (Nat.le_of_ble_eq_true rfl) ?_
  refine EvM.mono k (fun r2 h1 k => ?_)
  obtain ⟨rfl, k⟩ := k
  show Ev w _ _ _ 6 _ [] _ _
  refine Ev.aload_n 0 (am_dt kJ1_charAt_3b067 4 rfl) rfl rfl ?_
  refine Ev.iload_n 1 (am_dt kJ1_charAt_3b067 5 rfl) rfl rfl ?_
  obtain ⟨f3, k⟩ := k
  refine Ev.bald (k := i) hw hi (am_dt kJ1_charAt_3b067 6 rfl) f3 ?_
  refine Ev.sipush (v := 255) (am_dt kJ1_charAt_3b067 7 rfl) (by decide) ?_
  refine Ev.iand (am_dt kJ1_charAt_3b067 8 rfl) ?_
  refine Ev.i2c (am_dt kJ1_charAt_3b067 9 rfl) ?_
  exact Ev.iret .char (am_dt kJ1_charAt_3b067 10 rfl) rfl k.1 k.2
set_option maxRecDepth 20000 in
set_option maxHeartbeats 2000000 in
theorem bJ0_charAt_5068e_0 {w : am_W} {d : Nat} {h : am_H} {Q : Option Value → am_H → Prop} {x1 : Int32}  {ad av : Nat → Nat} {sf : Value} (hw : StW w ad av sf) {i : Nat} (hi : i < 2) (k : EvM w mJ0_isLatin1_aae02 d [.ref (ad i)] h (fun r2 h1 => ∃ v3 : Int32, r2 = some (.int v3) ∧ ((v3 = 0 → (EvM w mJ2_charAt_3b067 d [.ref (av i), .int x1] h1 (fun r5 h4 => ∃ v6 : Int32, r5 = some (.int v6) ∧ (narrow .char (.int v6) = .int v6 ∧ (Q (some (.int v6)) h4))))) ∧ (¬ v3 = 0 → (EvM w mJ1_charAt_3b067 d [.ref (av i), .int x1] h1 (fun r9 h8 => ∃ v10 : Int32, r9 = some (.int v10) ∧ (narrow .char (.int v10) = .int v10 ∧ (Q (some (.int v10)) h8)))))))) : EvM w mJ0_charAt_5068e (d + 1) [.ref (ad i), .int x1] h Q := by
  show Ev w (am_Z w) mJ0_charAt_5068e (d + 1) 0 [(0, .ref (ad i)), (1, .int x1)] [] h Q
  refine Ev.aload_n 0 (am_dt kJ0_charAt_5068e 0 rfl) rfl rfl ?_
  refine Ev.callVS (k := i) (v := mJ0_isLatin1_aae02) (As := []) (st := []) hw hi okJ0_isLatin1_aae02 we_8 we_9 we_10 (am_dt kJ0_charAt_5068e 1 rfl) rfl rfl (Nat.le_of_ble_eq_true rfl) (Nat.le_of_ble_eq_true rfl) ?_
  refine EvM.mono k (fun r2 h1 k => ?_)
  obtain ⟨v3, rfl, k⟩ := k
  show Ev w _ _ _ 4 _ [.int v3] _ _
  refine Ev.if_eq (tgt := 16) (am_dt kJ0_charAt_5068e 2 rfl) (by decide) (fun c => ?_) (fun c => ?_)
  · have k := k.1 c
    refine Ev.aload_n 0 (am_dt kJ0_charAt_5068e 8 rfl) rfl rfl ?_
    refine Ev.sval (k := i) hw hi we_2 (am_dt kJ0_charAt_5068e 9 rfl) ?_
    refine Ev.iload_n 1 (am_dt kJ0_charAt_5068e 10 rfl) rfl rfl ?_
    refine Ev.callS (v := mJ2_charAt_3b067) (As := [.ref (av i), .int x1]) (st := []) okJ2_charAt_3b067 we_12 we_11 (am_dt kJ0_charAt_5068e 11 rfl) rfl rfl (Nat.le_of_ble_eq_true rfl) (Nat.le_of_ble_eq_true rfl) ?_
    refine EvM.mono k (fun r5 h4 k => ?_)
    obtain ⟨v6, rfl, k⟩ := k
    show Ev w _ _ _ 24 _ [.int v6] _ _
    exact Ev.iret .char (am_dt kJ0_charAt_5068e 12 rfl) rfl k.1 k.2
  · have k := k.2 c
    refine Ev.aload_n 0 (am_dt kJ0_charAt_5068e 3 rfl) rfl rfl ?_
    refine Ev.sval (k := i) hw hi we_2 (am_dt kJ0_charAt_5068e 4 rfl) ?_
    refine Ev.iload_n 1 (am_dt kJ0_charAt_5068e 5 rfl) rfl rfl ?_
    refine Ev.callS (v := mJ1_charAt_3b067) (As := [.ref (av i), .int x1]) (st := []) okJ1_charAt_3b067 we_14 we_13 (am_dt kJ0_charAt_5068e 6 rfl) rfl rfl (Nat.le_of_ble_eq_true rfl) (Nat.le_of_ble_eq_true rfl) ?_
    refine EvM.mono k (fun r9 h8 k => ?_)
    obtain ⟨v10, rfl, k⟩ := k
    show Ev w _ _ _ 15 _ [.int v10] _ _
    exact Ev.iret .char (am_dt kJ0_charAt_5068e 7 rfl) rfl k.1 k.2
set_option maxRecDepth 20000 in
set_option maxHeartbeats 2000000 in
theorem bJ1_canEncode_9a6ad_0 {w : am_W} {d : Nat} {h : am_H} {Q : Option Value → am_H → Prop} {x0 : Int32}  {ad av : Nat → Nat} {sf : Value} (hw : StW w ad av sf) {i : Nat} (hi : i < 2) (k : (x0 < 0 → (Q (some (.int 0)) h)) ∧ (¬ x0 < 0 → ((255 < x0 → (Q (some (.int 0)) h)) ∧ (¬ 255 < x0 → (Q (some (.int 1)) h))))) : EvM w mJ1_canEncode_9a6ad d [.int x0] h Q := by
  show Ev w (am_Z w) mJ1_canEncode_9a6ad d 0 [(0, .int x0)] [] h Q
  refine Ev.iload_n 0 (am_dt kJ1_canEncode_9a6ad 0 rfl) rfl rfl ?_
  refine Ev.if_lt (tgt := 15) (am_dt kJ1_canEncode_9a6ad 1 rfl) (by decide) (fun c => ?_) (fun c => ?_)
  · have k := k.1 c
    refine Ev.iconst (v := 0) (am_dt kJ1_canEncode_9a6ad 7 rfl) (by decide) ?_
    exact Ev.iret .boolean (am_dt kJ1_canEncode_9a6ad 8 rfl) rfl rfl k
  · have k := k.2 c
    refine Ev.iload_n 0 (am_dt kJ1_canEncode_9a6ad 2 rfl) rfl rfl ?_
    refine Ev.sipush (v := 255) (am_dt kJ1_canEncode_9a6ad 3 rfl) (by decide) ?_
    refine Ev.icmp_gt (tgt := 15) (am_dt kJ1_canEncode_9a6ad 4 rfl) (by decide) (fun c => ?_) (fun c => ?_)
    · have k := k.1 c
      refine Ev.iconst (v := 0) (am_dt kJ1_canEncode_9a6ad 7 rfl) (by decide) ?_
      exact Ev.iret .boolean (am_dt kJ1_canEncode_9a6ad 8 rfl) rfl rfl k
    · have k := k.2 c
      refine Ev.iconst (v := 1) (am_dt kJ1_canEncode_9a6ad 5 rfl) (by decide) ?_
      refine Ev.goto (tgt := 16) (am_dt kJ1_canEncode_9a6ad 6 rfl) (by decide) ?_
      exact Ev.iret .boolean (am_dt kJ1_canEncode_9a6ad 8 rfl) rfl rfl k
set_option maxRecDepth 20000 in
set_option maxHeartbeats 2000000 in
theorem bJ1_indexOfChar_4cfef_0 {w : am_W} {d : Nat} {h : am_H} {Q : Option Value → am_H → Prop} {x1 : Int32} {x2 : Int32} {x3 : Int32}  {ad av : Nat → Nat} {sf : Value} (hw : StW w ad av sf) {i : Nat} (hi : i < 2) (k : Ev w (am_Z w) mJ1_indexOfChar_4cfef d 7 [(0, .ref (av i)), (3, .int x3), (4, .int ((Int32.toInt8 x1).toInt32)), (5, .int x2)] [] h Q) : EvM w mJ1_indexOfChar_4cfef d [.ref (av i), .int x1, .int x2, .int x3] h Q := by
  show Ev w (am_Z w) mJ1_indexOfChar_4cfef d 0 [(0, .ref (av i)), (1, .int x1), (2, .int x2), (3, .int x3)] [] h Q
  refine Ev.iload_n 1 (am_dt kJ1_indexOfChar_4cfef 0 rfl) rfl rfl ?_
  refine Ev.i2b (am_dt kJ1_indexOfChar_4cfef 1 rfl) ?_
  refine Ev.istore (lv' := [(4, .int ((Int32.toInt8 x1).toInt32)), (0, .ref (av i)), (1, .int x1), (2, .int x2), (3, .int x3)]) (am_dt kJ1_indexOfChar_4cfef 2 rfl) (by decide) rfl ?_
  refine Ev.iload_n 3 (am_dt kJ1_indexOfChar_4cfef 3 rfl) rfl rfl ?_
  refine Ev.istore (lv' := [(5, .int x2), (4, .int ((Int32.toInt8 x1).toInt32)), (0, .ref (av i)), (1, .int x1), (2, .int x2), (3, .int x3)]) (am_dt kJ1_indexOfChar_4cfef 4 rfl) (by decide) rfl ?_
  exact Ev.sub [2, 5, 1, 0] rfl k
set_option maxRecDepth 20000 in
set_option maxHeartbeats 2000000 in
theorem bJ1_indexOfChar_4cfef_7 {w : am_W} {d : Nat} {h : am_H} {Q : Option Value → am_H → Prop} {x3 : Int32} {x4 : Int32} {x5 : Int32}  {ad av : Nat → Nat} {sf : Value} (hw : StW w ad av sf) {i : Nat} (hi : i < 2) (k : (x3 ≤ x5 → (Q (some (.int ((-1)))) h)) ∧ (¬ x3 ≤ x5 → ((vp_in x5 (sLn i)) ∧ (((sBy i (Int32.toNatClampNeg x5)) = x4 → (Q (some (.int x5)) h)) ∧ (¬ (sBy i (Int32.toNatClampNeg x5)) = x4 → (Ev w (am_Z w) mJ1_indexOfChar_4cfef d 7 [(0, .ref (av i)), (3, .int x3), (4, .int x4), (5, .int (x5 + 1))] [] h Q)))))) : Ev w (am_Z w) mJ1_indexOfChar_4cfef d 7 [(0, .ref (av i)), (3, .int x3), (4, .int x4), (5, .int x5)] [] h Q := by
  refine Ev.iload 3 (am_dt kJ1_indexOfChar_4cfef 5 rfl) rfl ?_
  refine Ev.iload_n 1 (am_dt kJ1_indexOfChar_4cfef 6 rfl) rfl rfl ?_
  refine Ev.icmp_ge (tgt := 31) (am_dt kJ1_indexOfChar_4cfef 7 rfl) (by decide) (fun c => ?_) (fun c => ?_)
  · have k := k.1 c
    refine Ev.iconst (v := (-1)) (am_dt kJ1_indexOfChar_4cfef 17 rfl) (by decide) ?_
    exact Ev.iret .int (am_dt kJ1_indexOfChar_4cfef 18 rfl) rfl rfl k
  · have k := k.2 c
    refine Ev.aload_n 0 (am_dt kJ1_indexOfChar_4cfef 8 rfl) rfl rfl ?_
    refine Ev.iload 3 (am_dt kJ1_indexOfChar_4cfef 9 rfl) rfl ?_
    obtain ⟨f1, k⟩ := k
    refine Ev.bald (k := i) hw hi (am_dt kJ1_indexOfChar_4cfef 10 rfl) f1 ?_
    refine Ev.iload 2 (am_dt kJ1_indexOfChar_4cfef 11 rfl) rfl ?_
    refine Ev.icmp_ne (tgt := 25) (am_dt kJ1_indexOfChar_4cfef 12 rfl) (by decide) (fun c => ?_) (fun c => ?_)
    · have k := k.2 c
      refine Ev.iinc (v := x5 + 1) (lv' := [(5, .int (x5 + 1)), (0, .ref (av i)), (3, .int x3), (4, .int x4)]) 3 (am_dt kJ1_indexOfChar_4cfef 15 rfl) rfl rfl (by decide) rfl ?_
      refine Ev.goto (tgt := 7) (am_dt kJ1_indexOfChar_4cfef 16 rfl) (by decide) ?_
      exact Ev.sub [1, 2, 3, 0] rfl k
    · have k := k.1 c
      refine Ev.iload 3 (am_dt kJ1_indexOfChar_4cfef 13 rfl) rfl ?_
      exact Ev.iret .int (am_dt kJ1_indexOfChar_4cfef 14 rfl) rfl rfl k
set_option maxRecDepth 20000 in
set_option maxHeartbeats 2000000 in
theorem bJ1_indexOf_4cfef_0 {w : am_W} {d : Nat} {h : am_H} {Q : Option Value → am_H → Prop} {x1 : Int32} {x2 : Int32} {x3 : Int32}  {ad av : Nat → Nat} {sf : Value} (hw : StW w ad av sf) {i : Nat} (hi : i < 2) (k : EvM w mJ1_canEncode_9a6ad d [.int x1] h (fun r2 h1 => ∃ v3 : Int32, r2 = some (.int v3) ∧ ((v3 = 0 → (Q (some (.int ((-1)))) h1)) ∧ (¬ v3 = 0 → (((if x2 < 0 then 0 else x2) < (if (nI (sLn i)) < x3 then (nI (sLn i)) else x3) → (EvM w mJ1_indexOfChar_4cfef d [.ref (av i), .int x1, .int (if x2 < 0 then 0 else x2), .int (if (nI (sLn i)) < x3 then (nI (sLn i)) else x3)] h1 (fun r5 h4 => ∃ v6 : Int32, r5 = some (.int v6) ∧ (Q (some (.int v6)) h4)))) ∧ (¬ (if x2 < 0 then 0 else x2) < (if (nI (sLn i)) < x3 then (nI (sLn i)) else x3) → (Q (some (.int ((-1)))) h1))))))) : EvM w mJ1_indexOf_4cfef (d + 1) [.ref (av i), .int x1, .int x2, .int x3] h Q := by
  show Ev w (am_Z w) mJ1_indexOf_4cfef (d + 1) 0 [(0, .ref (av i)), (1, .int x1), (2, .int x2), (3, .int x3)] [] h Q
  refine Ev.iload_n 1 (am_dt kJ1_indexOf_4cfef 0 rfl) rfl rfl ?_
  refine Ev.callS (v := mJ1_canEncode_9a6ad) (As := [.int x1]) (st := []) okJ1_canEncode_9a6ad we_16 we_15 (am_dt kJ1_indexOf_4cfef 1 rfl) rfl rfl (Nat.le_of_ble_eq_true rfl) (Nat.le_of_ble_eq_true rfl) ?_
  refine EvM.mono k (fun r2 h1 k => ?_)
  obtain ⟨v3, rfl, k⟩ := k
  show Ev w _ _ _ 4 _ [.int v3] _ _
  refine Ev.if_ne (tgt := 9) (am_dt kJ1_indexOf_4cfef 2 rfl) (by decide) (fun c => ?_) (fun c => ?_)
  · have k := k.2 c
    refine Ev.iload_n 2 (am_dt kJ1_indexOf_4cfef 5 rfl) rfl rfl ?_
    refine Ev.iconst (v := 0) (am_dt kJ1_indexOf_4cfef 6 rfl) (by decide) ?_
    refine Ev.mmax we_17 wd_5 wd_6 wd_7 (am_dt kJ1_indexOf_4cfef 7 rfl) (Nat.le_of_ble_eq_true rfl) ?_
    refine Ev.istore_n (lv' := [(2, .int (if x2 < 0 then 0 else x2)), (0, .ref (av i)), (1, .int x1), (3, .int x3)]) (am_dt kJ1_indexOf_4cfef 8 rfl) rfl (by decide) rfl ?_
    refine Ev.iload_n 3 (am_dt kJ1_indexOf_4cfef 9 rfl) rfl rfl ?_
    refine Ev.aload_n 1 (am_dt kJ1_indexOf_4cfef 10 rfl) rfl rfl ?_
    refine Ev.blen (k := i) hw hi (am_dt kJ1_indexOf_4cfef 11 rfl) ?_
    refine Ev.mmin we_18 wd_74 wd_6 wd_75 (am_dt kJ1_indexOf_4cfef 12 rfl) (Nat.le_of_ble_eq_true rfl) ?_
    refine Ev.istore_n (lv' := [(3, .int (if (nI (sLn i)) < x3 then (nI (sLn i)) else x3)), (2, .int (if x2 < 0 then 0 else x2)), (0, .ref (av i)), (1, .int x1)]) (am_dt kJ1_indexOf_4cfef 13 rfl) rfl (by decide) rfl ?_
    refine Ev.iload_n 1 (am_dt kJ1_indexOf_4cfef 14 rfl) rfl rfl ?_
    refine Ev.iload_n 0 (am_dt kJ1_indexOf_4cfef 15 rfl) rfl rfl ?_
    refine Ev.icmp_lt (tgt := 29) (am_dt kJ1_indexOf_4cfef 16 rfl) (by decide) (fun c => ?_) (fun c => ?_)
    · have k := k.1 c
      refine Ev.aload_n 2 (am_dt kJ1_indexOf_4cfef 19 rfl) rfl rfl ?_
      refine Ev.iload_n 3 (am_dt kJ1_indexOf_4cfef 20 rfl) rfl rfl ?_
      refine Ev.iload_n 1 (am_dt kJ1_indexOf_4cfef 21 rfl) rfl rfl ?_
      refine Ev.iload_n 0 (am_dt kJ1_indexOf_4cfef 22 rfl) rfl rfl ?_
      refine Ev.callS (v := mJ1_indexOfChar_4cfef) (As := [.ref (av i), .int x1, .int (if x2 < 0 then 0 else x2), .int (if (nI (sLn i)) < x3 then (nI (sLn i)) else x3)]) (st := []) okJ1_indexOfChar_4cfef we_20 we_19 (am_dt kJ1_indexOf_4cfef 23 rfl) rfl rfl (Nat.le_of_ble_eq_true rfl) (Nat.le_of_ble_eq_true rfl) ?_
      refine EvM.mono k (fun r5 h4 k => ?_)
      obtain ⟨v6, rfl, k⟩ := k
      show Ev w _ _ _ 36 _ [.int v6] _ _
      exact Ev.iret .int (am_dt kJ1_indexOf_4cfef 24 rfl) rfl rfl k
    · have k := k.2 c
      refine Ev.iconst (v := (-1)) (am_dt kJ1_indexOf_4cfef 17 rfl) (by decide) ?_
      exact Ev.iret .int (am_dt kJ1_indexOf_4cfef 18 rfl) rfl rfl k
  · have k := k.1 c
    refine Ev.iconst (v := (-1)) (am_dt kJ1_indexOf_4cfef 3 rfl) (by decide) ?_
    exact Ev.iret .int (am_dt kJ1_indexOf_4cfef 4 rfl) rfl rfl k
set_option maxRecDepth 20000 in
set_option maxHeartbeats 2000000 in
theorem bJ0_indexOf_7cf53_0 {w : am_W} {d : Nat} {h : am_H} {Q : Option Value → am_H → Prop} {x1 : Int32} {x2 : Int32}  {ad av : Nat → Nat} {sf : Value} (hw : StW w ad av sf) {i : Nat} (hi : i < 2) (k : EvM w mJ0_isLatin1_aae02 d [.ref (ad i)] h (fun r2 h1 => ∃ v3 : Int32, r2 = some (.int v3) ∧ ((v3 = 0 → (EvM w mJ0_length_8abf5 d [.ref (ad i)] h1 (fun r5 h4 => ∃ v6 : Int32, r5 = some (.int v6) ∧ (EvM w mJ2_indexOf_4cfef d [.ref (av i), .int x1, .int x2, .int v6] h4 (fun r8 h7 => ∃ v9 : Int32, r8 = some (.int v9) ∧ (Q (some (.int v9)) h7)))))) ∧ (¬ v3 = 0 → (EvM w mJ0_length_8abf5 d [.ref (ad i)] h1 (fun r11 h10 => ∃ v12 : Int32, r11 = some (.int v12) ∧ (EvM w mJ1_indexOf_4cfef d [.ref (av i), .int x1, .int x2, .int v12] h10 (fun r14 h13 => ∃ v15 : Int32, r14 = some (.int v15) ∧ (Q (some (.int v15)) h13))))))))) : EvM w mJ0_indexOf_7cf53 (d + 1) [.ref (ad i), .int x1, .int x2] h Q := by
  show Ev w (am_Z w) mJ0_indexOf_7cf53 (d + 1) 0 [(0, .ref (ad i)), (1, .int x1), (2, .int x2)] [] h Q
  refine Ev.aload_n 0 (am_dt kJ0_indexOf_7cf53 0 rfl) rfl rfl ?_
  refine Ev.callVS (k := i) (v := mJ0_isLatin1_aae02) (As := []) (st := []) hw hi okJ0_isLatin1_aae02 we_8 we_9 we_10 (am_dt kJ0_indexOf_7cf53 1 rfl) rfl rfl (Nat.le_of_ble_eq_true rfl) (Nat.le_of_ble_eq_true rfl) ?_
  refine EvM.mono k (fun r2 h1 k => ?_)
  obtain ⟨v3, rfl, k⟩ := k
  show Ev w _ _ _ 4 _ [.int v3] _ _
  refine Ev.if_eq (tgt := 23) (am_dt kJ0_indexOf_7cf53 2 rfl) (by decide) (fun c => ?_) (fun c => ?_)
  · have k := k.1 c
    refine Ev.aload_n 0 (am_dt kJ0_indexOf_7cf53 11 rfl) rfl rfl ?_
    refine Ev.sval (k := i) hw hi we_2 (am_dt kJ0_indexOf_7cf53 12 rfl) ?_
    refine Ev.iload_n 1 (am_dt kJ0_indexOf_7cf53 13 rfl) rfl rfl ?_
    refine Ev.iload_n 2 (am_dt kJ0_indexOf_7cf53 14 rfl) rfl rfl ?_
    refine Ev.aload_n 0 (am_dt kJ0_indexOf_7cf53 15 rfl) rfl rfl ?_
    refine Ev.callVS (k := i) (v := mJ0_length_8abf5) (As := []) (st := [.int x2, .int x1, .ref (av i)]) hw hi okJ0_length_8abf5 we_21 we_22 we_23 (am_dt kJ0_indexOf_7cf53 16 rfl) rfl rfl (Nat.le_of_ble_eq_true rfl) (Nat.le_of_ble_eq_true rfl) ?_
    refine EvM.mono k (fun r5 h4 k => ?_)
    obtain ⟨v6, rfl, k⟩ := k
    show Ev w _ _ _ 33 _ [.int v6, .int x2, .int x1, .ref (av i)] _ _
    refine Ev.callS (v := mJ2_indexOf_4cfef) (As := [.ref (av i), .int x1, .int x2, .int v6]) (st := []) okJ2_indexOf_4cfef we_25 we_24 (am_dt kJ0_indexOf_7cf53 17 rfl) rfl rfl (Nat.le_of_ble_eq_true rfl) (Nat.le_of_ble_eq_true rfl) ?_
    refine EvM.mono k (fun r8 h7 k => ?_)
    obtain ⟨v9, rfl, k⟩ := k
    show Ev w _ _ _ 36 _ [.int v9] _ _
    exact Ev.iret .int (am_dt kJ0_indexOf_7cf53 18 rfl) rfl rfl k
  · have k := k.2 c
    refine Ev.aload_n 0 (am_dt kJ0_indexOf_7cf53 3 rfl) rfl rfl ?_
    refine Ev.sval (k := i) hw hi we_2 (am_dt kJ0_indexOf_7cf53 4 rfl) ?_
    refine Ev.iload_n 1 (am_dt kJ0_indexOf_7cf53 5 rfl) rfl rfl ?_
    refine Ev.iload_n 2 (am_dt kJ0_indexOf_7cf53 6 rfl) rfl rfl ?_
    refine Ev.aload_n 0 (am_dt kJ0_indexOf_7cf53 7 rfl) rfl rfl ?_
    refine Ev.callVS (k := i) (v := mJ0_length_8abf5) (As := []) (st := [.int x2, .int x1, .ref (av i)]) hw hi okJ0_length_8abf5 we_21 we_22 we_23 (am_dt kJ0_indexOf_7cf53 8 rfl) rfl rfl (Nat.le_of_ble_eq_true rfl) (Nat.le_of_ble_eq_true rfl) ?_
    refine EvM.mono k (fun r11 h10 k => ?_)
    obtain ⟨v12, rfl, k⟩ := k
    show Ev w _ _ _ 17 _ [.int v12, .int x2, .int x1, .ref (av i)] _ _
    refine Ev.callS (v := mJ1_indexOf_4cfef) (As := [.ref (av i), .int x1, .int x2, .int v12]) (st := []) okJ1_indexOf_4cfef we_27 we_26 (am_dt kJ0_indexOf_7cf53 9 rfl) rfl rfl (Nat.le_of_ble_eq_true rfl) (Nat.le_of_ble_eq_true rfl) ?_
    refine EvM.mono k (fun r14 h13 k => ?_)
    obtain ⟨v15, rfl, k⟩ := k
    show Ev w _ _ _ 20 _ [.int v15] _ _
    refine Ev.goto (tgt := 36) (am_dt kJ0_indexOf_7cf53 10 rfl) (by decide) ?_
    exact Ev.iret .int (am_dt kJ0_indexOf_7cf53 18 rfl) rfl rfl k
set_option maxRecDepth 20000 in
set_option maxHeartbeats 2000000 in
theorem bJ0_indexOf_0f7a4_0 {w : am_W} {d : Nat} {h : am_H} {Q : Option Value → am_H → Prop} {x1 : Int32}  {ad av : Nat → Nat} {sf : Value} (hw : StW w ad av sf) {i : Nat} (hi : i < 2) (k : EvM w mJ0_indexOf_7cf53 d [.ref (ad i), .int x1, .int 0] h (fun r2 h1 => ∃ v3 : Int32, r2 = some (.int v3) ∧ (Q (some (.int v3)) h1))) : EvM w mJ0_indexOf_0f7a4 (d + 1) [.ref (ad i), .int x1] h Q := by
  show Ev w (am_Z w) mJ0_indexOf_0f7a4 (d + 1) 0 [(0, .ref (ad i)), (1, .int x1)] [] h Q
  refine Ev.aload_n 0 (am_dt kJ0_indexOf_0f7a4 0 rfl) rfl rfl ?_
  refine Ev.iload_n 1 (am_dt kJ0_indexOf_0f7a4 1 rfl) rfl rfl ?_
  refine Ev.iconst (v := 0) (am_dt kJ0_indexOf_0f7a4 2 rfl) (by decide) ?_
  refine Ev.callVS (k := i) (v := mJ0_indexOf_7cf53) (As := [.int x1, .int 0]) (st := []) hw hi okJ0_indexOf_7cf53 we_28 we_29 we_30 (am_dt kJ0_indexOf_0f7a4 3 rfl) rfl rfl (Nat.le_of_ble_eq_true rfl) (Nat.le_of_ble_eq_true rfl) ?_
  refine EvM.mono k (fun r2 h1 k => ?_)
  obtain ⟨v3, rfl, k⟩ := k
  show Ev w _ _ _ 6 _ [.int v3] _ _
  exact Ev.iret .int (am_dt kJ0_indexOf_0f7a4 4 rfl) rfl rfl k
set_option maxRecDepth 20000 in
set_option maxHeartbeats 2000000 in
theorem bJ7_copyOf_59c91_0 {w : am_W} {d : Nat} {h : am_H} {Q : Option Value → am_H → Prop} {a0 : Nat} {x1 : Int32}  {ad av : Nat → Nat} {sf : Value} (hw : StW w ad av sf) (k : (hK h a0 = 12) ∧ ((x1 = (nI (hN h a0)) → (∀ h2 : am_H, h2 = rI (nA h 12 (hN h a0)) (hZ h) (hI h a0) → ((hK h2 (hZ h) = 12) ∧ (Q (some (.ref (hZ h))) h2)))) ∧ (¬ x1 = (nI (hN h a0)) → ((¬ x1 < 0 ∧ Int32.toNatClampNeg x1 ≤ 50000000) ∧ (∀ h4 : am_H, h4 = nA h 12 (Int32.toNatClampNeg x1) → ((hK h4 a0 = 12) ∧ ((hK h4 a0 = 12 ∧ hK h4 (hZ h) = 12 ∧ ¬ (0 : Int32) < 0 ∧ ¬ (0 : Int32) < 0 ∧ ¬ (if x1 < (nI (hN h4 a0)) then x1 else (nI (hN h4 a0))) < 0 ∧ Int32.toNatClampNeg 0 + Int32.toNatClampNeg (if x1 < (nI (hN h4 a0)) then x1 else (nI (hN h4 a0))) ≤ hN h4 a0 ∧ Int32.toNatClampNeg 0 + Int32.toNatClampNeg (if x1 < (nI (hN h4 a0)) then x1 else (nI (hN h4 a0))) ≤ hN h4 (hZ h)) ∧ (∀ h7 : am_H, h7 = rI h4 (hZ h) (va_cpy (hI h4 a0) (hI h4 (hZ h)) (Int32.toNatClampNeg 0) (Int32.toNatClampNeg 0) (Int32.toNatClampNeg (if x1 < (nI (hN h4 a0)) then x1 else (nI (hN h4 a0))))) → (Q (some (.ref (hZ h))) h7))))))))) : EvM w mJ7_copyOf_59c91 (d + 1) [.ref a0, .int x1] h Q := by
  show Ev w (am_Z w) mJ7_copyOf_59c91 (d + 1) 0 [(0, .ref a0), (1, .int x1)] [] h Q
  refine Ev.iload_n 1 (am_dt kJ7_copyOf_59c91 0 rfl) rfl rfl ?_
  refine Ev.aload_n 0 (am_dt kJ7_copyOf_59c91 1 rfl) rfl rfl ?_
  obtain ⟨f1, k⟩ := k
  refine Ev.alen 12 (am_dt kJ7_copyOf_59c91 2 rfl) (by decide) (by decide) f1 ?_
  refine Ev.icmp_ne (tgt := 14) (am_dt kJ7_copyOf_59c91 3 rfl) (by decide) (fun c => ?_) (fun c => ?_)
  · have k := k.2 c
    refine Ev.iload_n 1 (am_dt kJ7_copyOf_59c91 8 rfl) rfl rfl ?_
    obtain ⟨f5, k⟩ := k
    refine Ev.newI' (N := (Int32.toNatClampNeg x1)) (am_dt kJ7_copyOf_59c91 9 rfl) wd_9 f5.1 rfl (by have := f5.2; omega) (fun h4 eh4 => ?_)
    have k := k h4 eh4
    refine Ev.astore_n (lv' := [(2, .ref (hZ h)), (0, .ref a0), (1, .int x1)]) (am_dt kJ7_copyOf_59c91 10 rfl) rfl (by decide) rfl ?_
    refine Ev.aload_n 1 (am_dt kJ7_copyOf_59c91 11 rfl) rfl rfl ?_
    refine Ev.iconst (v := 0) (am_dt kJ7_copyOf_59c91 12 rfl) (by decide) ?_
    refine Ev.aload_n 0 (am_dt kJ7_copyOf_59c91 13 rfl) rfl rfl ?_
    refine Ev.iconst (v := 0) (am_dt kJ7_copyOf_59c91 14 rfl) (by decide) ?_
    refine Ev.aload_n 1 (am_dt kJ7_copyOf_59c91 15 rfl) rfl rfl ?_
    obtain ⟨f6, k⟩ := k
    refine Ev.alen 12 (am_dt kJ7_copyOf_59c91 16 rfl) (by decide) (by decide) f6 ?_
    refine Ev.iload_n 2 (am_dt kJ7_copyOf_59c91 17 rfl) rfl rfl ?_
    refine Ev.mmin we_37 wd_74 wd_6 wd_75 (am_dt kJ7_copyOf_59c91 18 rfl) (Nat.le_of_ble_eq_true rfl) ?_
    obtain ⟨f8, k⟩ := k
    refine Ev.acopy we_38 we_39 we_40 we_41 (am_dt kJ7_copyOf_59c91 19 rfl) (Nat.le_of_ble_eq_true rfl) f8.1 f8.2.1 f8.2.2.1 f8.2.2.2.1 f8.2.2.2.2.1 f8.2.2.2.2.2.1 f8.2.2.2.2.2.2 (fun h7 eh7 => ?_)
    have k := k h7 eh7
    refine Ev.aload_n 0 (am_dt kJ7_copyOf_59c91 20 rfl) rfl rfl ?_
    exact Ev.aret _ (by first | exact Or.inl ⟨_, rfl⟩ | exact Or.inr ⟨_, rfl⟩) (am_dt kJ7_copyOf_59c91 21 rfl) rfl k
  · have k := k.1 c
    refine Ev.aload_n 0 (am_dt kJ7_copyOf_59c91 4 rfl) rfl rfl ?_
    refine Ev.clone hw we_31 we_32 we_33 we_34 we_35 (am_dt kJ7_copyOf_59c91 5 rfl) (Nat.le_of_ble_eq_true rfl) f1 (fun h2 eh2 => ?_)
    have k := k h2 eh2
    obtain ⟨f3, k⟩ := k
    refine Ev.castI we_36 (am_dt kJ7_copyOf_59c91 6 rfl) f3 ?_
    exact Ev.aret _ (by first | exact Or.inl ⟨_, rfl⟩ | exact Or.inr ⟨_, rfl⟩) (am_dt kJ7_copyOf_59c91 7 rfl) rfl k
set_option maxRecDepth 20000 in
set_option maxHeartbeats 2000000 in
theorem bX8_isWord_0 {w : am_W} {d : Nat} {h : am_H} {Q : Option Value → am_H → Prop} {a0 : Nat} {x1 : Int32} {x2 : Int32} {x3 : Int32}  {ad av : Nat → Nat} {sf : Value} (hw : StW w ad av sf) (k : Ev w (am_Z w) mX8_isWord (d + 1) 3 [(0, .ref a0), (1, .int x1), (2, .int x2), (3, .int x3), (4, .int 0)] [] h Q) : EvM w mX8_isWord (d + 1) [.ref a0, .int x1, .int x2, .int x3] h Q := by
  show Ev w (am_Z w) mX8_isWord (d + 1) 0 [(0, .ref a0), (1, .int x1), (2, .int x2), (3, .int x3)] [] h Q
  refine Ev.iconst (v := 0) (am_dt kX8_isWord 0 rfl) (by decide) ?_
  refine Ev.istore (lv' := [(4, .int 0), (0, .ref a0), (1, .int x1), (2, .int x2), (3, .int x3)]) (am_dt kX8_isWord 1 rfl) (by decide) rfl ?_
  exact Ev.sub [1, 2, 3, 4, 0] rfl k
set_option maxRecDepth 20000 in
set_option maxHeartbeats 2000000 in
theorem bX8_isWord_3 {w : am_W} {d : Nat} {h : am_H} {Q : Option Value → am_H → Prop} {a0 : Nat} {x1 : Int32} {x2 : Int32} {x3 : Int32} {x4 : Int32}  {ad av : Nat → Nat} {sf : Value} (hw : StW w ad av sf) (k : (8 ≤ x4 → (Q (some (.int 1)) h)) ∧ (¬ 8 ≤ x4 → ((x3 ≤ (x2 + x4) → (Ev w (am_Z w) mX8_isWord (d + 1) 40 [(0, .ref a0), (1, .int x1), (2, .int x2), (3, .int x3), (4, .int x4), (5, .int ((x1 * 8) + x4))] [.int 32] h Q)) ∧ (¬ x3 ≤ (x2 + x4) → ((am_L 8 a0 h) ∧ (EvM w mX8_signAt d [.ref a0, .int (x2 + x4)] h (fun r3 h2 => ∃ v4 : Int32, r3 = some (.int v4) ∧ (Ev w (am_Z w) mX8_isWord (d + 1) 40 [(0, .ref a0), (1, .int x1), (2, .int x2), (3, .int x3), (4, .int x4), (5, .int ((x1 * 8) + x4))] [.int v4] h2 Q)))))))) : Ev w (am_Z w) mX8_isWord (d + 1) 3 [(0, .ref a0), (1, .int x1), (2, .int x2), (3, .int x3), (4, .int x4)] [] h Q := by
  refine Ev.iload 4 (am_dt kX8_isWord 2 rfl) rfl ?_
  refine Ev.bipush (v := 8) (am_dt kX8_isWord 3 rfl) (by decide) ?_
  refine Ev.icmp_ge (tgt := 77) (am_dt kX8_isWord 4 rfl) (by decide) (fun c => ?_) (fun c => ?_)
  · have k := k.1 c
    refine Ev.iconst (v := 1) (am_dt kX8_isWord 39 rfl) (by decide) ?_
    exact Ev.iret .boolean (am_dt kX8_isWord 40 rfl) rfl rfl k
  · have k := k.2 c
    refine Ev.iload_n 1 (am_dt kX8_isWord 5 rfl) rfl rfl ?_
    refine Ev.bipush (v := 8) (am_dt kX8_isWord 6 rfl) (by decide) ?_
    refine Ev.imul (am_dt kX8_isWord 7 rfl) ?_
    refine Ev.iload 4 (am_dt kX8_isWord 8 rfl) rfl ?_
    refine Ev.iadd (am_dt kX8_isWord 9 rfl) ?_
    refine Ev.istore (lv' := [(5, .int ((x1 * 8) + x4)), (0, .ref a0), (1, .int x1), (2, .int x2), (3, .int x3), (4, .int x4)]) (am_dt kX8_isWord 10 rfl) (by decide) rfl ?_
    refine Ev.iload_n 3 (am_dt kX8_isWord 11 rfl) rfl rfl ?_
    refine Ev.iload 5 (am_dt kX8_isWord 12 rfl) rfl ?_
    refine Ev.iadd (am_dt kX8_isWord 13 rfl) ?_
    refine Ev.iload_n 4 (am_dt kX8_isWord 14 rfl) rfl rfl ?_
    refine Ev.icmp_ge (tgt := 38) (am_dt kX8_isWord 15 rfl) (by decide) (fun c => ?_) (fun c => ?_)
    · have k := k.1 c
      refine Ev.bipush (v := 32) (am_dt kX8_isWord 22 rfl) (by decide) ?_
      exact Ev.sub [1, 2, 3, 4, 5, 0] rfl k
    · have k := k.2 c
      refine Ev.aload_n 1 (am_dt kX8_isWord 16 rfl) rfl rfl ?_
      refine Ev.iload_n 3 (am_dt kX8_isWord 17 rfl) rfl rfl ?_
      refine Ev.iload 5 (am_dt kX8_isWord 18 rfl) rfl ?_
      refine Ev.iadd (am_dt kX8_isWord 19 rfl) ?_
      obtain ⟨f1, k⟩ := k
      refine Ev.callV (ci := 8) (v := mX8_signAt) (As := [.int (x2 + x4)]) (st := []) okX8_signAt wd_87 wd_88 wd_89 (am_dt kX8_isWord 20 rfl) (by decide) rfl rfl (Nat.le_of_ble_eq_true rfl) (Nat.le_of_ble_eq_true rfl) f1.1 ?_
      refine EvM.mono k (fun r3 h2 k => ?_)
      obtain ⟨v4, rfl, k⟩ := k
      show Ev w _ _ _ 35 _ [.int v4] _ _
      refine Ev.goto (tgt := 40) (am_dt kX8_isWord 21 rfl) (by decide) ?_
      exact Ev.sub [1, 2, 3, 4, 5, 0] rfl k
set_option maxRecDepth 20000 in
set_option maxHeartbeats 2000000 in
theorem bX8_isWord_40 {w : am_W} {d : Nat} {h : am_H} {Q : Option Value → am_H → Prop} {a0 : Nat} {x1 : Int32} {x2 : Int32} {x3 : Int32} {x4 : Int32} {x5 : Int32} {s0 : Int32} {ad av : Nat → Nat} {sf : Value} (hw : StW w ad av sf) (k : (x5 < 0 → (Q (some (.int 0)) h)) ∧ (¬ x5 < 0 → (EvM w mJ0_length_8abf5 d [.ref (ad 0)] h (fun r2 h1 => ∃ v3 : Int32, r2 = some (.int v3) ∧ ((v3 ≤ x5 → (Q (some (.int 0)) h1)) ∧ (¬ v3 ≤ x5 → (EvM w mJ0_charAt_5068e d [.ref (ad 0), .int x5] h1 (fun r5 h4 => ∃ v6 : Int32, r5 = some (.int v6) ∧ ((v6 = s0 → (Ev w (am_Z w) mX8_isWord (d + 1) 3 [(0, .ref a0), (1, .int x1), (2, .int x2), (3, .int x3), (4, .int (x4 + 1))] [] h4 Q)) ∧ (¬ v6 = s0 → (Q (some (.int 0)) h4))))))))))) : Ev w (am_Z w) mX8_isWord (d + 1) 40 [(0, .ref a0), (1, .int x1), (2, .int x2), (3, .int x3), (4, .int x4), (5, .int x5)] [.int s0] h Q := by
  refine Ev.istore (lv' := [(6, .int s0), (0, .ref a0), (1, .int x1), (2, .int x2), (3, .int x3), (4, .int x4), (5, .int x5)]) (am_dt kX8_isWord 23 rfl) (by decide) rfl ?_
  refine Ev.iload 6 (am_dt kX8_isWord 24 rfl) rfl ?_
  refine Ev.if_lt (tgt := 69) (am_dt kX8_isWord 25 rfl) (by decide) (fun c => ?_) (fun c => ?_)
  · have k := k.1 c
    refine Ev.iconst (v := 0) (am_dt kX8_isWord 35 rfl) (by decide) ?_
    exact Ev.iret .boolean (am_dt kX8_isWord 36 rfl) rfl rfl k
  · have k := k.2 c
    refine Ev.iload 6 (am_dt kX8_isWord 26 rfl) rfl ?_
    refine Ev.ldcS (k := 0) hw rfl (am_dt kX8_isWord 27 rfl) (by decide) ?_
    refine Ev.callVS (k := 0) (v := mJ0_length_8abf5) (As := []) (st := [.int x5]) hw (by decide) okJ0_length_8abf5 we_21 we_22 we_42 (am_dt kX8_isWord 28 rfl) rfl rfl (Nat.le_of_ble_eq_true rfl) (Nat.le_of_ble_eq_true rfl) ?_
    refine EvM.mono k (fun r2 h1 k => ?_)
    obtain ⟨v3, rfl, k⟩ := k
    show Ev w _ _ _ 54 _ [.int v3, .int x5] _ _
    refine Ev.icmp_ge (tgt := 69) (am_dt kX8_isWord 29 rfl) (by decide) (fun c => ?_) (fun c => ?_)
    · have k := k.1 c
      refine Ev.iconst (v := 0) (am_dt kX8_isWord 35 rfl) (by decide) ?_
      exact Ev.iret .boolean (am_dt kX8_isWord 36 rfl) rfl rfl k
    · have k := k.2 c
      refine Ev.ldcS (k := 0) hw rfl (am_dt kX8_isWord 30 rfl) (by decide) ?_
      refine Ev.iload 6 (am_dt kX8_isWord 31 rfl) rfl ?_
      refine Ev.callVS (k := 0) (v := mJ0_charAt_5068e) (As := [.int x5]) (st := []) hw (by decide) okJ0_charAt_5068e we_43 we_44 we_45 (am_dt kX8_isWord 32 rfl) rfl rfl (Nat.le_of_ble_eq_true rfl) (Nat.le_of_ble_eq_true rfl) ?_
      refine EvM.mono k (fun r5 h4 k => ?_)
      obtain ⟨v6, rfl, k⟩ := k
      show Ev w _ _ _ 64 _ [.int v6] _ _
      refine Ev.iload 0 (am_dt kX8_isWord 33 rfl) rfl ?_
      refine Ev.icmp_eq (tgt := 71) (am_dt kX8_isWord 34 rfl) (by decide) (fun c => ?_) (fun c => ?_)
      · have k := k.1 c
        refine Ev.iinc (v := x4 + 1) (lv' := [(4, .int (x4 + 1)), (6, .int s0), (0, .ref a0), (1, .int x1), (2, .int x2), (3, .int x3), (5, .int x5)]) 5 (am_dt kX8_isWord 37 rfl) rfl rfl (by decide) rfl ?_
        refine Ev.goto (tgt := 3) (am_dt kX8_isWord 38 rfl) (by decide) ?_
        exact Ev.sub [2, 3, 4, 5, 0] rfl k
      · have k := k.2 c
        refine Ev.iconst (v := 0) (am_dt kX8_isWord 35 rfl) (by decide) ?_
        exact Ev.iret .boolean (am_dt kX8_isWord 36 rfl) rfl rfl k
set_option maxRecDepth 20000 in
set_option maxHeartbeats 2000000 in
theorem bX8_wordKind_0 {w : am_W} {d : Nat} {h : am_H} {Q : Option Value → am_H → Prop} {a0 : Nat} {x1 : Int32} {x2 : Int32}  {ad av : Nat → Nat} {sf : Value} (hw : StW w ad av sf) (k : Ev w (am_Z w) mX8_wordKind (d + 1) 2 [(0, .ref a0), (1, .int x1), (2, .int x2), (3, .int 0)] [] h Q) : EvM w mX8_wordKind (d + 1) [.ref a0, .int x1, .int x2] h Q := by
  show Ev w (am_Z w) mX8_wordKind (d + 1) 0 [(0, .ref a0), (1, .int x1), (2, .int x2)] [] h Q
  refine Ev.iconst (v := 0) (am_dt kX8_wordKind 0 rfl) (by decide) ?_
  refine Ev.istore_n (lv' := [(3, .int 0), (0, .ref a0), (1, .int x1), (2, .int x2)]) (am_dt kX8_wordKind 1 rfl) rfl (by decide) rfl ?_
  exact Ev.sub [1, 2, 3, 0] rfl k
set_option maxRecDepth 20000 in
set_option maxHeartbeats 2000000 in
theorem bX8_wordKind_2 {w : am_W} {d : Nat} {h : am_H} {Q : Option Value → am_H → Prop} {a0 : Nat} {x1 : Int32} {x2 : Int32} {x3 : Int32}  {ad av : Nat → Nat} {sf : Value} (hw : StW w ad av sf) (k : EvM w mJ0_length_8abf5 d [.ref (ad 0)] h (fun r2 h1 => ∃ v3 : Int32, r2 = some (.int v3) ∧ (((v3 / 8) ≤ x3 → (Q (some (.int 3)) h1)) ∧ (¬ (v3 / 8) ≤ x3 → ((am_L 8 a0 h1) ∧ (EvM w mX8_isWord d [.ref a0, .int x3, .int x1, .int x2] h1 (fun r6 h5 => ∃ v7 : Int32, r6 = some (.int v7) ∧ ((v7 = 0 → (Ev w (am_Z w) mX8_wordKind (d + 1) 2 [(0, .ref a0), (1, .int x1), (2, .int x2), (3, .int (x3 + 1))] [] h5 Q)) ∧ (¬ v7 = 0 → (Q (some (.int (64 + x3))) h5)))))))))) : Ev w (am_Z w) mX8_wordKind (d + 1) 2 [(0, .ref a0), (1, .int x1), (2, .int x2), (3, .int x3)] [] h Q := by
  refine Ev.iload_n 3 (am_dt kX8_wordKind 2 rfl) rfl rfl ?_
  refine Ev.ldcS (k := 0) hw rfl (am_dt kX8_wordKind 3 rfl) (by decide) ?_
  refine Ev.callVS (k := 0) (v := mJ0_length_8abf5) (As := []) (st := [.int x3]) hw (by decide) okJ0_length_8abf5 we_21 we_22 we_42 (am_dt kX8_wordKind 4 rfl) rfl rfl (Nat.le_of_ble_eq_true rfl) (Nat.le_of_ble_eq_true rfl) ?_
  refine EvM.mono k (fun r2 h1 k => ?_)
  obtain ⟨v3, rfl, k⟩ := k
  show Ev w _ _ _ 8 _ [.int v3, .int x3] _ _
  refine Ev.bipush (v := 8) (am_dt kX8_wordKind 5 rfl) (by decide) ?_
  refine Ev.idiv (am_dt kX8_wordKind 6 rfl) (by decide) ?_
  refine Ev.icmp_ge (tgt := 35) (am_dt kX8_wordKind 7 rfl) (by decide) (fun c => ?_) (fun c => ?_)
  · have k := k.1 c
    refine Ev.iconst (v := 3) (am_dt kX8_wordKind 20 rfl) (by decide) ?_
    exact Ev.iret .int (am_dt kX8_wordKind 21 rfl) rfl rfl k
  · have k := k.2 c
    refine Ev.aload_n 0 (am_dt kX8_wordKind 8 rfl) rfl rfl ?_
    refine Ev.iload_n 3 (am_dt kX8_wordKind 9 rfl) rfl rfl ?_
    refine Ev.iload_n 1 (am_dt kX8_wordKind 10 rfl) rfl rfl ?_
    refine Ev.iload_n 2 (am_dt kX8_wordKind 11 rfl) rfl rfl ?_
    obtain ⟨f4, k⟩ := k
    refine Ev.callV (ci := 8) (v := mX8_isWord) (As := [.int x3, .int x1, .int x2]) (st := []) okX8_isWord we_46 we_47 we_48 (am_dt kX8_wordKind 12 rfl) (by decide) rfl rfl (Nat.le_of_ble_eq_true rfl) (Nat.le_of_ble_eq_true rfl) f4.1 ?_
    refine EvM.mono k (fun r6 h5 k => ?_)
    obtain ⟨v7, rfl, k⟩ := k
    show Ev w _ _ _ 21 _ [.int v7] _ _
    refine Ev.if_eq (tgt := 29) (am_dt kX8_wordKind 13 rfl) (by decide) (fun c => ?_) (fun c => ?_)
    · have k := k.1 c
      refine Ev.iinc (v := x3 + 1) (lv' := [(3, .int (x3 + 1)), (0, .ref a0), (1, .int x1), (2, .int x2)]) 3 (am_dt kX8_wordKind 18 rfl) rfl rfl (by decide) rfl ?_
      refine Ev.goto (tgt := 2) (am_dt kX8_wordKind 19 rfl) (by decide) ?_
      exact Ev.sub [1, 2, 3, 0] rfl k
    · have k := k.2 c
      refine Ev.bipush (v := 64) (am_dt kX8_wordKind 14 rfl) (by decide) ?_
      refine Ev.iload_n 3 (am_dt kX8_wordKind 15 rfl) rfl rfl ?_
      refine Ev.iadd (am_dt kX8_wordKind 16 rfl) ?_
      exact Ev.iret .int (am_dt kX8_wordKind 17 rfl) rfl rfl k
set_option maxRecDepth 20000 in
set_option maxHeartbeats 2000000 in
theorem bX8_cut_0 {w : am_W} {d : Nat} {h : am_H} {Q : Option Value → am_H → Prop} {a0 : Nat}  {ad av : Nat → Nat} {sf : Value} (hw : StW w ad av sf) (k : (am_L 8 a0 h) ∧ (∀ h2 : am_H, h2 = sI h a0 4 0 → (Ev w (am_Z w) mX8_cut (d + 1) 7 [(0, .ref a0), (2, .int 0)] [] h2 Q))) : EvM w mX8_cut (d + 1) [.ref a0] h Q := by
  show Ev w (am_Z w) mX8_cut (d + 1) 0 [(0, .ref a0)] [] h Q
  refine Ev.aload_n 0 (am_dt kX8_cut 0 rfl) rfl rfl ?_
  refine Ev.iconst (v := 0) (am_dt kX8_cut 1 rfl) (by decide) ?_
  obtain ⟨f1, k⟩ := k
  refine Ev.putI' (ci := 8) (k := 4) (am_dt kX8_cut 2 rfl) (by decide) (by decide) wd_85 rfl rfl rfl rfl f1.1 (fun h2 eh2 => ?_)
  have k := k h2 eh2
  have f1 := am_LsI eh2 f1
  refine Ev.iconst (v := 0) (am_dt kX8_cut 3 rfl) (by decide) ?_
  refine Ev.istore_n (lv' := [(2, .int 0), (0, .ref a0)]) (am_dt kX8_cut 4 rfl) rfl (by decide) rfl ?_
  exact Ev.sub [1, 0] rfl k
set_option maxRecDepth 20000 in
set_option maxHeartbeats 2000000 in
theorem bX8_cut_7 {w : am_W} {d : Nat} {h : am_H} {Q : Option Value → am_H → Prop} {a0 : Nat} {x2 : Int32}  {ad av : Nat → Nat} {sf : Value} (hw : StW w ad av sf) (k : (am_L 8 a0 h) ∧ (((hI h a0 3) ≤ x2 → (EvM w mX8_add d [.ref a0, .int 0, .int (hI h a0 3)] h (fun r3 h2 => r3 = none ∧ (Q none h2)))) ∧ (¬ (hI h a0 3) ≤ x2 → (EvM w mX8_signAt d [.ref a0, .int x2] h (fun r5 h4 => ∃ v6 : Int32, r5 = some (.int v6) ∧ (EvM w mX8_isLetter d [.int v6] h4 (fun r8 h7 => ∃ v9 : Int32, r8 = some (.int v9) ∧ ((v9 = 0 → (EvM w mX8_isDigit d [.int v6] h7 (fun r11 h10 => ∃ v12 : Int32, r11 = some (.int v12) ∧ ((v12 = 0 → ((v6 = 10 → (Ev w (am_Z w) mX8_cut (d + 1) 7 [(0, .ref a0), (2, .int (if (x2 + 1) < (x2 + 1) then (x2 + 1) else (x2 + 1)))] [] h10 Q)) ∧ (¬ v6 = 10 → ((v6 = 32 → (Ev w (am_Z w) mX8_cut (d + 1) 7 [(0, .ref a0), (2, .int (if (x2 + 1) < (x2 + 1) then (x2 + 1) else (x2 + 1)))] [] h10 Q)) ∧ (¬ v6 = 32 → (EvM w mJ0_indexOf_0f7a4 d [.ref (ad 1), .int v6] h10 (fun r14 h13 => ∃ v15 : Int32, r14 = some (.int v15) ∧ ((v15 < 0 → ((am_L 8 a0 h13) ∧ (EvM w mX8_add d [.ref a0, .int 1, .int x2] h13 (fun r18 h17 => r18 = none ∧ (Ev w (am_Z w) mX8_cut (d + 1) 7 [(0, .ref a0), (2, .int (if (x2 + 1) < (x2 + 1) then (x2 + 1) else (x2 + 1)))] [] h17 Q))))) ∧ (¬ v15 < 0 → ((am_L 8 a0 h13) ∧ (EvM w mX8_add d [.ref a0, .int v6, .int x2] h13 (fun r21 h20 => r21 = none ∧ (Ev w (am_Z w) mX8_cut (d + 1) 7 [(0, .ref a0), (2, .int (if (x2 + 1) < (x2 + 1) then (x2 + 1) else (x2 + 1)))] [] h20 Q))))))))))))) ∧ (¬ v12 = 0 → ((am_L 8 a0 h10) ∧ (EvM w mX8_endOfNumber d [.ref a0, .int x2] h10 (fun r24 h23 => ∃ v25 : Int32, r24 = some (.int v25) ∧ (((v25 - x2) ≤ 4 → ((am_L 8 a0 h23) ∧ (EvM w mX8_add d [.ref a0, .int 2, .int x2] h23 (fun r28 h27 => r28 = none ∧ (Ev w (am_Z w) mX8_cut (d + 1) 7 [(0, .ref a0), (2, .int (if (x2 + 1) < v25 then v25 else (x2 + 1)))] [] h27 Q))))) ∧ (¬ (v25 - x2) ≤ 4 → ((am_L 8 a0 h23) ∧ (EvM w mX8_add d [.ref a0, .int 1, .int x2] h23 (fun r31 h30 => r31 = none ∧ (Ev w (am_Z w) mX8_cut (d + 1) 7 [(0, .ref a0), (2, .int (if (x2 + 1) < v25 then v25 else (x2 + 1)))] [] h30 Q)))))))))))))) ∧ (¬ v9 = 0 → ((am_L 8 a0 h7) ∧ (EvM w mX8_endOfWord d [.ref a0, .int x2] h7 (fun r34 h33 => ∃ v35 : Int32, r34 = some (.int v35) ∧ (((v35 - x2) ≤ 8 → ((am_L 8 a0 h33) ∧ (EvM w mX8_wordKind d [.ref a0, .int x2, .int v35] h33 (fun r38 h37 => ∃ v39 : Int32, r38 = some (.int v39) ∧ ((am_L 8 a0 h37) ∧ (EvM w mX8_add d [.ref a0, .int v39, .int x2] h37 (fun r42 h41 => r42 = none ∧ (Ev w (am_Z w) mX8_cut (d + 1) 7 [(0, .ref a0), (2, .int (if (x2 + 1) < v35 then v35 else (x2 + 1)))] [] h41 Q)))))))) ∧ (¬ (v35 - x2) ≤ 8 → ((am_L 8 a0 h33) ∧ (EvM w mX8_add d [.ref a0, .int 1, .int x2] h33 (fun r45 h44 => r45 = none ∧ (Ev w (am_Z w) mX8_cut (d + 1) 7 [(0, .ref a0), (2, .int (if (x2 + 1) < v35 then v35 else (x2 + 1)))] [] h44 Q)))))))))))))))))) : Ev w (am_Z w) mX8_cut (d + 1) 7 [(0, .ref a0), (2, .int x2)] [] h Q := by
  refine Ev.iload_n 1 (am_dt kX8_cut 5 rfl) rfl rfl ?_
  refine Ev.aload_n 0 (am_dt kX8_cut 6 rfl) rfl rfl ?_
  obtain ⟨f1, k⟩ := k
  refine Ev.getI (ci := 8) (k := 3) (am_dt kX8_cut 7 rfl) (by decide) (by decide) rfl wd_84 f1.1 ?_
  refine Ev.icmp_ge (tgt := 139) (am_dt kX8_cut 8 rfl) (by decide) (fun c => ?_) (fun c => ?_)
  · have k := k.1 c
    refine Ev.aload_n 0 (am_dt kX8_cut 81 rfl) rfl rfl ?_
    refine Ev.iconst (v := 0) (am_dt kX8_cut 82 rfl) (by decide) ?_
    refine Ev.aload_n 0 (am_dt kX8_cut 83 rfl) rfl rfl ?_
    refine Ev.getI (ci := 8) (k := 3) (am_dt kX8_cut 84 rfl) (by decide) (by decide) rfl wd_84 f1.1 ?_
    refine Ev.callV (ci := 8) (v := mX8_add) (As := [.int 0, .int (hI h a0 3)]) (st := []) okX8_add we_49 we_50 we_51 (am_dt kX8_cut 85 rfl) (by decide) rfl rfl (Nat.le_of_ble_eq_true rfl) (Nat.le_of_ble_eq_true rfl) f1.1 ?_
    refine EvM.mono k (fun r3 h2 k => ?_)
    obtain ⟨rfl, k⟩ := k
    show Ev w _ _ _ 148 _ [] _ _
    exact Ev.vret (am_dt kX8_cut 86 rfl) rfl k
  · have k := k.2 c
    refine Ev.aload_n 0 (am_dt kX8_cut 9 rfl) rfl rfl ?_
    refine Ev.iload_n 1 (am_dt kX8_cut 10 rfl) rfl rfl ?_
    refine Ev.callV (ci := 8) (v := mX8_signAt) (As := [.int x2]) (st := []) okX8_signAt wd_87 wd_88 wd_89 (am_dt kX8_cut 11 rfl) (by decide) rfl rfl (Nat.le_of_ble_eq_true rfl) (Nat.le_of_ble_eq_true rfl) f1.1 ?_
    refine EvM.mono k (fun r5 h4 k => ?_)
    obtain ⟨v6, rfl, k⟩ := k
    show Ev w _ _ _ 20 _ [.int v6] _ _
    refine Ev.istore_n (lv' := [(3, .int v6), (0, .ref a0), (2, .int x2)]) (am_dt kX8_cut 12 rfl) rfl (by decide) rfl ?_
    refine Ev.iload_n 2 (am_dt kX8_cut 13 rfl) rfl rfl ?_
    refine Ev.iconst (v := 1) (am_dt kX8_cut 14 rfl) (by decide) ?_
    refine Ev.iadd (am_dt kX8_cut 15 rfl) ?_
    refine Ev.istore_n (lv' := [(1, .int (x2 + 1)), (3, .int v6), (0, .ref a0), (2, .int x2)]) (am_dt kX8_cut 16 rfl) rfl (by decide) rfl ?_
    refine Ev.iload_n 1 (am_dt kX8_cut 17 rfl) rfl rfl ?_
    refine Ev.callS (v := mX8_isLetter) (As := [.int v6]) (st := []) okX8_isLetter wd_91 wd_90 (am_dt kX8_cut 18 rfl) rfl rfl (Nat.le_of_ble_eq_true rfl) (Nat.le_of_ble_eq_true rfl) ?_
    refine EvM.mono k (fun r8 h7 k => ?_)
    obtain ⟨v9, rfl, k⟩ := k
    show Ev w _ _ _ 29 _ [.int v9] _ _
    refine Ev.if_eq (tgt := 64) (am_dt kX8_cut 19 rfl) (by decide) (fun c => ?_) (fun c => ?_)
    · have k := k.1 c
      refine Ev.iload_n 1 (am_dt kX8_cut 39 rfl) rfl rfl ?_
      refine Ev.callS (v := mX8_isDigit) (As := [.int v6]) (st := []) okX8_isDigit wd_93 wd_92 (am_dt kX8_cut 40 rfl) rfl rfl (Nat.le_of_ble_eq_true rfl) (Nat.le_of_ble_eq_true rfl) ?_
      refine EvM.mono k (fun r11 h10 k => ?_)
      obtain ⟨v12, rfl, k⟩ := k
      show Ev w _ _ _ 68 _ [.int v12] _ _
      refine Ev.if_eq (tgt := 97) (am_dt kX8_cut 41 rfl) (by decide) (fun c => ?_) (fun c => ?_)
      · have k := k.1 c
        refine Ev.iload_n 1 (am_dt kX8_cut 58 rfl) rfl rfl ?_
        refine Ev.bipush (v := 10) (am_dt kX8_cut 59 rfl) (by decide) ?_
        refine Ev.icmp_eq (tgt := 128) (am_dt kX8_cut 60 rfl) (by decide) (fun c => ?_) (fun c => ?_)
        · have k := k.1 c
          refine Ev.iload_n 3 (am_dt kX8_cut 74 rfl) rfl rfl ?_
          refine Ev.iconst (v := 1) (am_dt kX8_cut 75 rfl) (by decide) ?_
          refine Ev.iadd (am_dt kX8_cut 76 rfl) ?_
          refine Ev.iload_n 0 (am_dt kX8_cut 77 rfl) rfl rfl ?_
          refine Ev.mmax we_52 wd_5 wd_6 wd_7 (am_dt kX8_cut 78 rfl) (Nat.le_of_ble_eq_true rfl) ?_
          refine Ev.istore_n (lv' := [(2, .int (if (x2 + 1) < (x2 + 1) then (x2 + 1) else (x2 + 1))), (1, .int (x2 + 1)), (3, .int v6), (0, .ref a0)]) (am_dt kX8_cut 79 rfl) rfl (by decide) rfl ?_
          refine Ev.goto (tgt := 7) (am_dt kX8_cut 80 rfl) (by decide) ?_
          exact Ev.sub [3, 0] rfl k
        · have k := k.2 c
          refine Ev.iload_n 1 (am_dt kX8_cut 61 rfl) rfl rfl ?_
          refine Ev.bipush (v := 32) (am_dt kX8_cut 62 rfl) (by decide) ?_
          refine Ev.icmp_eq (tgt := 128) (am_dt kX8_cut 63 rfl) (by decide) (fun c => ?_) (fun c => ?_)
          · have k := k.1 c
            refine Ev.iload_n 3 (am_dt kX8_cut 74 rfl) rfl rfl ?_
            refine Ev.iconst (v := 1) (am_dt kX8_cut 75 rfl) (by decide) ?_
            refine Ev.iadd (am_dt kX8_cut 76 rfl) ?_
            refine Ev.iload_n 0 (am_dt kX8_cut 77 rfl) rfl rfl ?_
            refine Ev.mmax we_52 wd_5 wd_6 wd_7 (am_dt kX8_cut 78 rfl) (Nat.le_of_ble_eq_true rfl) ?_
            refine Ev.istore_n (lv' := [(2, .int (if (x2 + 1) < (x2 + 1) then (x2 + 1) else (x2 + 1))), (1, .int (x2 + 1)), (3, .int v6), (0, .ref a0)]) (am_dt kX8_cut 79 rfl) rfl (by decide) rfl ?_
            refine Ev.goto (tgt := 7) (am_dt kX8_cut 80 rfl) (by decide) ?_
            exact Ev.sub [3, 0] rfl k
          · have k := k.2 c
            refine Ev.aload_n 2 (am_dt kX8_cut 64 rfl) rfl rfl ?_
            refine Ev.ldcS (k := 1) hw rfl (am_dt kX8_cut 65 rfl) (by decide) ?_
            refine Ev.iload_n 1 (am_dt kX8_cut 66 rfl) rfl rfl ?_
            refine Ev.callVS (k := 1) (v := mJ0_indexOf_0f7a4) (As := [.int v6]) (st := [.ref a0]) hw (by decide) okJ0_indexOf_0f7a4 we_53 we_54 we_55 (am_dt kX8_cut 67 rfl) rfl rfl (Nat.le_of_ble_eq_true rfl) (Nat.le_of_ble_eq_true rfl) ?_
            refine EvM.mono k (fun r14 h13 k => ?_)
            obtain ⟨v15, rfl, k⟩ := k
            show Ev w _ _ _ 116 _ [.int v15, .ref a0] _ _
            refine Ev.if_lt (tgt := 123) (am_dt kX8_cut 68 rfl) (by decide) (fun c => ?_) (fun c => ?_)
            · have k := k.1 c
              refine Ev.iconst (v := 1) (am_dt kX8_cut 71 rfl) (by decide) ?_
              refine Ev.iload_n 3 (am_dt kX8_cut 72 rfl) rfl rfl ?_
              obtain ⟨f16, k⟩ := k
              refine Ev.callV (ci := 8) (v := mX8_add) (As := [.int 1, .int x2]) (st := []) okX8_add we_49 we_50 we_51 (am_dt kX8_cut 73 rfl) (by decide) rfl rfl (Nat.le_of_ble_eq_true rfl) (Nat.le_of_ble_eq_true rfl) f16.1 ?_
              refine EvM.mono k (fun r18 h17 k => ?_)
              obtain ⟨rfl, k⟩ := k
              show Ev w _ _ _ 128 _ [] _ _
              refine Ev.iload_n 3 (am_dt kX8_cut 74 rfl) rfl rfl ?_
              refine Ev.iconst (v := 1) (am_dt kX8_cut 75 rfl) (by decide) ?_
              refine Ev.iadd (am_dt kX8_cut 76 rfl) ?_
              refine Ev.iload_n 0 (am_dt kX8_cut 77 rfl) rfl rfl ?_
              refine Ev.mmax we_52 wd_5 wd_6 wd_7 (am_dt kX8_cut 78 rfl) (Nat.le_of_ble_eq_true rfl) ?_
              refine Ev.istore_n (lv' := [(2, .int (if (x2 + 1) < (x2 + 1) then (x2 + 1) else (x2 + 1))), (1, .int (x2 + 1)), (3, .int v6), (0, .ref a0)]) (am_dt kX8_cut 79 rfl) rfl (by decide) rfl ?_
              refine Ev.goto (tgt := 7) (am_dt kX8_cut 80 rfl) (by decide) ?_
              exact Ev.sub [3, 0] rfl k
            · have k := k.2 c
              refine Ev.iload_n 1 (am_dt kX8_cut 69 rfl) rfl rfl ?_
              refine Ev.goto (tgt := 124) (am_dt kX8_cut 70 rfl) (by decide) ?_
              refine Ev.iload_n 3 (am_dt kX8_cut 72 rfl) rfl rfl ?_
              obtain ⟨f19, k⟩ := k
              refine Ev.callV (ci := 8) (v := mX8_add) (As := [.int v6, .int x2]) (st := []) okX8_add we_49 we_50 we_51 (am_dt kX8_cut 73 rfl) (by decide) rfl rfl (Nat.le_of_ble_eq_true rfl) (Nat.le_of_ble_eq_true rfl) f19.1 ?_
              refine EvM.mono k (fun r21 h20 k => ?_)
              obtain ⟨rfl, k⟩ := k
              show Ev w _ _ _ 128 _ [] _ _
              refine Ev.iload_n 3 (am_dt kX8_cut 74 rfl) rfl rfl ?_
              refine Ev.iconst (v := 1) (am_dt kX8_cut 75 rfl) (by decide) ?_
              refine Ev.iadd (am_dt kX8_cut 76 rfl) ?_
              refine Ev.iload_n 0 (am_dt kX8_cut 77 rfl) rfl rfl ?_
              refine Ev.mmax we_52 wd_5 wd_6 wd_7 (am_dt kX8_cut 78 rfl) (Nat.le_of_ble_eq_true rfl) ?_
              refine Ev.istore_n (lv' := [(2, .int (if (x2 + 1) < (x2 + 1) then (x2 + 1) else (x2 + 1))), (1, .int (x2 + 1)), (3, .int v6), (0, .ref a0)]) (am_dt kX8_cut 79 rfl) rfl (by decide) rfl ?_
              refine Ev.goto (tgt := 7) (am_dt kX8_cut 80 rfl) (by decide) ?_
              exact Ev.sub [3, 0] rfl k
      · have k := k.2 c
        refine Ev.aload_n 2 (am_dt kX8_cut 42 rfl) rfl rfl ?_
        refine Ev.iload_n 3 (am_dt kX8_cut 43 rfl) rfl rfl ?_
        obtain ⟨f22, k⟩ := k
        refine Ev.callV (ci := 8) (v := mX8_endOfNumber) (As := [.int x2]) (st := []) okX8_endOfNumber we_56 we_57 we_58 (am_dt kX8_cut 44 rfl) (by decide) rfl rfl (Nat.le_of_ble_eq_true rfl) (Nat.le_of_ble_eq_true rfl) f22.1 ?_
        refine EvM.mono k (fun r24 h23 k => ?_)
        obtain ⟨v25, rfl, k⟩ := k
        show Ev w _ _ _ 76 _ [.int v25] _ _
        refine Ev.istore_n (lv' := [(1, .int v25), (3, .int v6), (0, .ref a0), (2, .int x2)]) (am_dt kX8_cut 45 rfl) rfl (by decide) rfl ?_
        refine Ev.aload_n 2 (am_dt kX8_cut 46 rfl) rfl rfl ?_
        refine Ev.iload_n 0 (am_dt kX8_cut 47 rfl) rfl rfl ?_
        refine Ev.iload_n 3 (am_dt kX8_cut 48 rfl) rfl rfl ?_
        refine Ev.isub (am_dt kX8_cut 49 rfl) ?_
        refine Ev.iconst (v := 4) (am_dt kX8_cut 50 rfl) (by decide) ?_
        refine Ev.icmp_le (tgt := 89) (am_dt kX8_cut 51 rfl) (by decide) (fun c => ?_) (fun c => ?_)
        · have k := k.1 c
          refine Ev.iconst (v := 2) (am_dt kX8_cut 54 rfl) (by decide) ?_
          refine Ev.iload_n 3 (am_dt kX8_cut 55 rfl) rfl rfl ?_
          obtain ⟨f26, k⟩ := k
          refine Ev.callV (ci := 8) (v := mX8_add) (As := [.int 2, .int x2]) (st := []) okX8_add we_49 we_50 we_51 (am_dt kX8_cut 56 rfl) (by decide) rfl rfl (Nat.le_of_ble_eq_true rfl) (Nat.le_of_ble_eq_true rfl) f26.1 ?_
          refine EvM.mono k (fun r28 h27 k => ?_)
          obtain ⟨rfl, k⟩ := k
          show Ev w _ _ _ 94 _ [] _ _
          refine Ev.goto (tgt := 128) (am_dt kX8_cut 57 rfl) (by decide) ?_
          refine Ev.iload_n 3 (am_dt kX8_cut 74 rfl) rfl rfl ?_
          refine Ev.iconst (v := 1) (am_dt kX8_cut 75 rfl) (by decide) ?_
          refine Ev.iadd (am_dt kX8_cut 76 rfl) ?_
          refine Ev.iload_n 0 (am_dt kX8_cut 77 rfl) rfl rfl ?_
          refine Ev.mmax we_52 wd_5 wd_6 wd_7 (am_dt kX8_cut 78 rfl) (Nat.le_of_ble_eq_true rfl) ?_
          refine Ev.istore_n (lv' := [(2, .int (if (x2 + 1) < v25 then v25 else (x2 + 1))), (1, .int v25), (3, .int v6), (0, .ref a0)]) (am_dt kX8_cut 79 rfl) rfl (by decide) rfl ?_
          refine Ev.goto (tgt := 7) (am_dt kX8_cut 80 rfl) (by decide) ?_
          exact Ev.sub [3, 0] rfl k
        · have k := k.2 c
          refine Ev.iconst (v := 1) (am_dt kX8_cut 52 rfl) (by decide) ?_
          refine Ev.goto (tgt := 90) (am_dt kX8_cut 53 rfl) (by decide) ?_
          refine Ev.iload_n 3 (am_dt kX8_cut 55 rfl) rfl rfl ?_
          obtain ⟨f29, k⟩ := k
          refine Ev.callV (ci := 8) (v := mX8_add) (As := [.int 1, .int x2]) (st := []) okX8_add we_49 we_50 we_51 (am_dt kX8_cut 56 rfl) (by decide) rfl rfl (Nat.le_of_ble_eq_true rfl) (Nat.le_of_ble_eq_true rfl) f29.1 ?_
          refine EvM.mono k (fun r31 h30 k => ?_)
          obtain ⟨rfl, k⟩ := k
          show Ev w _ _ _ 94 _ [] _ _
          refine Ev.goto (tgt := 128) (am_dt kX8_cut 57 rfl) (by decide) ?_
          refine Ev.iload_n 3 (am_dt kX8_cut 74 rfl) rfl rfl ?_
          refine Ev.iconst (v := 1) (am_dt kX8_cut 75 rfl) (by decide) ?_
          refine Ev.iadd (am_dt kX8_cut 76 rfl) ?_
          refine Ev.iload_n 0 (am_dt kX8_cut 77 rfl) rfl rfl ?_
          refine Ev.mmax we_52 wd_5 wd_6 wd_7 (am_dt kX8_cut 78 rfl) (Nat.le_of_ble_eq_true rfl) ?_
          refine Ev.istore_n (lv' := [(2, .int (if (x2 + 1) < v25 then v25 else (x2 + 1))), (1, .int v25), (3, .int v6), (0, .ref a0)]) (am_dt kX8_cut 79 rfl) rfl (by decide) rfl ?_
          refine Ev.goto (tgt := 7) (am_dt kX8_cut 80 rfl) (by decide) ?_
          exact Ev.sub [3, 0] rfl k
    · have k := k.2 c
      refine Ev.aload_n 2 (am_dt kX8_cut 20 rfl) rfl rfl ?_
      refine Ev.iload_n 3 (am_dt kX8_cut 21 rfl) rfl rfl ?_
      obtain ⟨f32, k⟩ := k
      refine Ev.callV (ci := 8) (v := mX8_endOfWord) (As := [.int x2]) (st := []) okX8_endOfWord we_59 we_60 we_61 (am_dt kX8_cut 22 rfl) (by decide) rfl rfl (Nat.le_of_ble_eq_true rfl) (Nat.le_of_ble_eq_true rfl) f32.1 ?_
      refine EvM.mono k (fun r34 h33 k => ?_)
      obtain ⟨v35, rfl, k⟩ := k
      show Ev w _ _ _ 37 _ [.int v35] _ _
      refine Ev.istore_n (lv' := [(1, .int v35), (3, .int v6), (0, .ref a0), (2, .int x2)]) (am_dt kX8_cut 23 rfl) rfl (by decide) rfl ?_
      refine Ev.aload_n 2 (am_dt kX8_cut 24 rfl) rfl rfl ?_
      refine Ev.iload_n 0 (am_dt kX8_cut 25 rfl) rfl rfl ?_
      refine Ev.iload_n 3 (am_dt kX8_cut 26 rfl) rfl rfl ?_
      refine Ev.isub (am_dt kX8_cut 27 rfl) ?_
      refine Ev.bipush (v := 8) (am_dt kX8_cut 28 rfl) (by decide) ?_
      refine Ev.icmp_le (tgt := 51) (am_dt kX8_cut 29 rfl) (by decide) (fun c => ?_) (fun c => ?_)
      · have k := k.1 c
        refine Ev.aload_n 2 (am_dt kX8_cut 32 rfl) rfl rfl ?_
        refine Ev.iload_n 3 (am_dt kX8_cut 33 rfl) rfl rfl ?_
        refine Ev.iload_n 0 (am_dt kX8_cut 34 rfl) rfl rfl ?_
        obtain ⟨f36, k⟩ := k
        refine Ev.callV (ci := 8) (v := mX8_wordKind) (As := [.int x2, .int v35]) (st := [.ref a0]) okX8_wordKind we_62 we_63 we_64 (am_dt kX8_cut 35 rfl) (by decide) rfl rfl (Nat.le_of_ble_eq_true rfl) (Nat.le_of_ble_eq_true rfl) f36.1 ?_
        refine EvM.mono k (fun r38 h37 k => ?_)
        obtain ⟨v39, rfl, k⟩ := k
        show Ev w _ _ _ 57 _ [.int v39, .ref a0] _ _
        refine Ev.iload_n 3 (am_dt kX8_cut 36 rfl) rfl rfl ?_
        obtain ⟨f40, k⟩ := k
        refine Ev.callV (ci := 8) (v := mX8_add) (As := [.int v39, .int x2]) (st := []) okX8_add we_49 we_50 we_51 (am_dt kX8_cut 37 rfl) (by decide) rfl rfl (Nat.le_of_ble_eq_true rfl) (Nat.le_of_ble_eq_true rfl) f40.1 ?_
        refine EvM.mono k (fun r42 h41 k => ?_)
        obtain ⟨rfl, k⟩ := k
        show Ev w _ _ _ 61 _ [] _ _
        refine Ev.goto (tgt := 128) (am_dt kX8_cut 38 rfl) (by decide) ?_
        refine Ev.iload_n 3 (am_dt kX8_cut 74 rfl) rfl rfl ?_
        refine Ev.iconst (v := 1) (am_dt kX8_cut 75 rfl) (by decide) ?_
        refine Ev.iadd (am_dt kX8_cut 76 rfl) ?_
        refine Ev.iload_n 0 (am_dt kX8_cut 77 rfl) rfl rfl ?_
        refine Ev.mmax we_52 wd_5 wd_6 wd_7 (am_dt kX8_cut 78 rfl) (Nat.le_of_ble_eq_true rfl) ?_
        refine Ev.istore_n (lv' := [(2, .int (if (x2 + 1) < v35 then v35 else (x2 + 1))), (1, .int v35), (3, .int v6), (0, .ref a0)]) (am_dt kX8_cut 79 rfl) rfl (by decide) rfl ?_
        refine Ev.goto (tgt := 7) (am_dt kX8_cut 80 rfl) (by decide) ?_
        exact Ev.sub [3, 0] rfl k
      · have k := k.2 c
        refine Ev.iconst (v := 1) (am_dt kX8_cut 30 rfl) (by decide) ?_
        refine Ev.goto (tgt := 57) (am_dt kX8_cut 31 rfl) (by decide) ?_
        refine Ev.iload_n 3 (am_dt kX8_cut 36 rfl) rfl rfl ?_
        obtain ⟨f43, k⟩ := k
        refine Ev.callV (ci := 8) (v := mX8_add) (As := [.int 1, .int x2]) (st := []) okX8_add we_49 we_50 we_51 (am_dt kX8_cut 37 rfl) (by decide) rfl rfl (Nat.le_of_ble_eq_true rfl) (Nat.le_of_ble_eq_true rfl) f43.1 ?_
        refine EvM.mono k (fun r45 h44 k => ?_)
        obtain ⟨rfl, k⟩ := k
        show Ev w _ _ _ 61 _ [] _ _
        refine Ev.goto (tgt := 128) (am_dt kX8_cut 38 rfl) (by decide) ?_
        refine Ev.iload_n 3 (am_dt kX8_cut 74 rfl) rfl rfl ?_
        refine Ev.iconst (v := 1) (am_dt kX8_cut 75 rfl) (by decide) ?_
        refine Ev.iadd (am_dt kX8_cut 76 rfl) ?_
        refine Ev.iload_n 0 (am_dt kX8_cut 77 rfl) rfl rfl ?_
        refine Ev.mmax we_52 wd_5 wd_6 wd_7 (am_dt kX8_cut 78 rfl) (Nat.le_of_ble_eq_true rfl) ?_
        refine Ev.istore_n (lv' := [(2, .int (if (x2 + 1) < v35 then v35 else (x2 + 1))), (1, .int v35), (3, .int v6), (0, .ref a0)]) (am_dt kX8_cut 79 rfl) rfl (by decide) rfl ?_
        refine Ev.goto (tgt := 7) (am_dt kX8_cut 80 rfl) (by decide) ?_
        exact Ev.sub [3, 0] rfl k
set_option maxRecDepth 20000 in
set_option maxHeartbeats 2000000 in
theorem bX5_read_0 {w : am_W} {d : Nat} {h : am_H} {Q : Option Value → am_H → Prop} {a0 : Nat} {a1 : Nat}  (k : (am_L 5 a0 h) ∧ ((a1 ≠ 0) ∧ (∀ h3 : am_H, h3 = sR h a0 3 a1 → (∀ h4 : am_H, h4 = sI h3 a0 4 0 → (∀ h5 : am_H, h5 = sI h4 a0 5 0 → (∀ h6 : am_H, h6 = sI h5 a0 6 0 → (∀ h7 : am_H, h7 = sI h6 a0 7 0 → (Ev w (am_Z w) mX5_read (d + 1) 27 [(0, .ref a0), (2, .int 0)] [] h7 Q)))))))) : EvM w mX5_read (d + 1) [.ref a0, .ref a1] h Q := by
  show Ev w (am_Z w) mX5_read (d + 1) 0 [(0, .ref a0), (1, .ref a1)] [] h Q
  refine Ev.aload_n 0 (am_dt kX5_read 0 rfl) rfl rfl ?_
  refine Ev.aload_n 1 (am_dt kX5_read 1 rfl) rfl rfl ?_
  obtain ⟨f1, k⟩ := k
  obtain ⟨f2, k⟩ := k
  refine Ev.putR' (ci := 5) (k := 3) (am_dt kX5_read 2 rfl) (by decide) (by decide) wd_100 rfl rfl rfl rfl f2 f1.1 (fun h3 eh3 => ?_)
  have k := k h3 eh3
  have f1 := am_LsR eh3 (by decide) f1
  refine Ev.aload_n 0 (am_dt kX5_read 3 rfl) rfl rfl ?_
  refine Ev.iconst (v := 0) (am_dt kX5_read 4 rfl) (by decide) ?_
  refine Ev.putI' (ci := 5) (k := 4) (am_dt kX5_read 5 rfl) (by decide) (by decide) wd_163 rfl rfl rfl rfl f1.1 (fun h4 eh4 => ?_)
  have k := k h4 eh4
  have f1 := am_LsI eh4 f1
  refine Ev.aload_n 0 (am_dt kX5_read 6 rfl) rfl rfl ?_
  refine Ev.iconst (v := 0) (am_dt kX5_read 7 rfl) (by decide) ?_
  refine Ev.putI' (ci := 5) (k := 5) (am_dt kX5_read 8 rfl) (by decide) (by decide) wd_102 rfl rfl rfl rfl f1.1 (fun h5 eh5 => ?_)
  have k := k h5 eh5
  have f1 := am_LsI eh5 f1
  refine Ev.aload_n 0 (am_dt kX5_read 9 rfl) rfl rfl ?_
  refine Ev.iconst (v := 0) (am_dt kX5_read 10 rfl) (by decide) ?_
  refine Ev.putI' (ci := 5) (k := 6) (am_dt kX5_read 11 rfl) (by decide) (by decide) wd_105 rfl rfl rfl rfl f1.1 (fun h6 eh6 => ?_)
  have k := k h6 eh6
  have f1 := am_LsI eh6 f1
  refine Ev.aload_n 0 (am_dt kX5_read 12 rfl) rfl rfl ?_
  refine Ev.iconst (v := 0) (am_dt kX5_read 13 rfl) (by decide) ?_
  refine Ev.putI' (ci := 5) (k := 7) (am_dt kX5_read 14 rfl) (by decide) (by decide) wd_131 rfl rfl rfl rfl f1.1 (fun h7 eh7 => ?_)
  have k := k h7 eh7
  have f1 := am_LsI eh7 f1
  refine Ev.iconst (v := 0) (am_dt kX5_read 15 rfl) (by decide) ?_
  refine Ev.istore_n (lv' := [(2, .int 0), (0, .ref a0), (1, .ref a1)]) (am_dt kX5_read 16 rfl) rfl (by decide) rfl ?_
  exact Ev.sub [1, 0] rfl k
set_option maxRecDepth 20000 in
set_option maxHeartbeats 2000000 in
theorem bX5_read_27 {w : am_W} {d : Nat} {h : am_H} {Q : Option Value → am_H → Prop} {a0 : Nat} {x2 : Int32}  (k : (1000 < x2 → (Ev w (am_Z w) mX5_read (d + 1) 58 [(0, .ref a0)] [] h Q)) ∧ (¬ 1000 < x2 → ((am_L 5 a0 h) ∧ (((hI h a0 6) = 0 → (EvM w mX5_kind d [.ref a0] h (fun r3 h2 => ∃ v4 : Int32, r3 = some (.int v4) ∧ ((v4 = 0 → (Ev w (am_Z w) mX5_read (d + 1) 58 [(0, .ref a0)] [] h2 Q)) ∧ (¬ v4 = 0 → ((am_L 5 a0 h2) ∧ (EvM w mX5_line d [.ref a0] h2 (fun r7 h6 => r7 = none ∧ (Ev w (am_Z w) mX5_read (d + 1) 27 [(0, .ref a0), (2, .int (x2 + 1))] [] h6 Q))))))))) ∧ (¬ (hI h a0 6) = 0 → (Ev w (am_Z w) mX5_read (d + 1) 58 [(0, .ref a0)] [] h Q)))))) : Ev w (am_Z w) mX5_read (d + 1) 27 [(0, .ref a0), (2, .int x2)] [] h Q := by
  refine Ev.iload_n 1 (am_dt kX5_read 17 rfl) rfl rfl ?_
  refine Ev.sipush (v := 1000) (am_dt kX5_read 18 rfl) (by decide) ?_
  refine Ev.icmp_gt (tgt := 58) (am_dt kX5_read 19 rfl) (by decide) (fun c => ?_) (fun c => ?_)
  · have k := k.1 c
    exact Ev.sub [0] rfl k
  · have k := k.2 c
    refine Ev.aload_n 0 (am_dt kX5_read 20 rfl) rfl rfl ?_
    obtain ⟨f1, k⟩ := k
    refine Ev.getI (ci := 5) (k := 6) (am_dt kX5_read 21 rfl) (by decide) (by decide) rfl wd_105 f1.1 ?_
    refine Ev.if_ne (tgt := 58) (am_dt kX5_read 22 rfl) (by decide) (fun c => ?_) (fun c => ?_)
    · have k := k.2 c
      exact Ev.sub [0] rfl k
    · have k := k.1 c
      refine Ev.aload_n 0 (am_dt kX5_read 23 rfl) rfl rfl ?_
      refine Ev.callV (ci := 5) (v := mX5_kind) (As := []) (st := []) okX5_kind wd_107 wd_108 wd_109 (am_dt kX5_read 24 rfl) (by decide) rfl rfl (Nat.le_of_ble_eq_true rfl) (Nat.le_of_ble_eq_true rfl) f1.1 ?_
      refine EvM.mono k (fun r3 h2 k => ?_)
      obtain ⟨v4, rfl, k⟩ := k
      show Ev w _ _ _ 45 _ [.int v4] _ _
      refine Ev.if_eq (tgt := 58) (am_dt kX5_read 25 rfl) (by decide) (fun c => ?_) (fun c => ?_)
      · have k := k.1 c
        exact Ev.sub [0] rfl k
      · have k := k.2 c
        refine Ev.aload_n 0 (am_dt kX5_read 26 rfl) rfl rfl ?_
        obtain ⟨f5, k⟩ := k
        refine Ev.callV (ci := 5) (v := mX5_line) (As := []) (st := []) okX5_line we_65 we_66 we_67 (am_dt kX5_read 27 rfl) (by decide) rfl rfl (Nat.le_of_ble_eq_true rfl) (Nat.le_of_ble_eq_true rfl) f5.1 ?_
        refine EvM.mono k (fun r7 h6 k => ?_)
        obtain ⟨rfl, k⟩ := k
        show Ev w _ _ _ 52 _ [] _ _
        refine Ev.iinc (v := x2 + 1) (lv' := [(2, .int (x2 + 1)), (0, .ref a0)]) 1 (am_dt kX5_read 28 rfl) rfl rfl (by decide) rfl ?_
        refine Ev.goto (tgt := 27) (am_dt kX5_read 29 rfl) (by decide) ?_
        exact Ev.sub [1, 0] rfl k
set_option maxRecDepth 20000 in
set_option maxHeartbeats 2000000 in
theorem bX5_read_58 {w : am_W} {d : Nat} {h : am_H} {Q : Option Value → am_H → Prop} {a0 : Nat}  (k : (am_L 5 a0 h) ∧ ((hR h a0 3 ≠ 0) ∧ (EvM w mJ7_copyOf_59c91 d [.ref (a0 + 2), .int (if 0 < (if (nI (hN h (a0 + 2))) < (hI h a0 4) then (nI (hN h (a0 + 2))) else (hI h a0 4)) then (if (nI (hN h (a0 + 2))) < (hI h a0 4) then (nI (hN h (a0 + 2))) else (hI h a0 4)) else 0)] h (fun r4 h3 => ∃ v5 : Nat, r4 = some (.ref v5) ∧ ((am_L 6 (hR h a0 3) h3) ∧ ((v5 ≠ 0) ∧ (∀ h8 : am_H, h8 = sR h3 (hR h a0 3) 5 v5 → ((am_L 5 a0 h8) ∧ (Q (some (.int (hI h8 a0 6))) h8))))))))) : Ev w (am_Z w) mX5_read (d + 1) 58 [(0, .ref a0)] [] h Q := by
  refine Ev.aload_n 0 (am_dt kX5_read 30 rfl) rfl rfl ?_
  obtain ⟨f1, k⟩ := k
  obtain ⟨f2, k⟩ := k
  refine Ev.getR (ci := 5) (k := 3) (am_dt kX5_read 31 rfl) (by decide) (by decide) rfl wd_100 f1.1 f2 ?_
  refine Ev.aload_n 0 (am_dt kX5_read 32 rfl) rfl rfl ?_
  refine Ev.getRe (ci := 5) (k := 2) (r := a0 + 2) (am_dt kX5_read 33 rfl) (by decide) (by decide) rfl wd_98 f1.1 (am_L.r f1 1 rfl) (by omega) ?_
  refine Ev.iconst (v := 0) (am_dt kX5_read 34 rfl) (by decide) ?_
  refine Ev.aload_n 0 (am_dt kX5_read 35 rfl) rfl rfl ?_
  refine Ev.getI (ci := 5) (k := 4) (am_dt kX5_read 36 rfl) (by decide) (by decide) rfl wd_163 f1.1 ?_
  refine Ev.aload_n 0 (am_dt kX5_read 37 rfl) rfl rfl ?_
  refine Ev.getRe (ci := 5) (k := 2) (r := a0 + 2) (am_dt kX5_read 38 rfl) (by decide) (by decide) rfl wd_98 f1.1 (am_L.r f1 1 rfl) (by omega) ?_
  refine Ev.alen 12 (am_dt kX5_read 39 rfl) (by decide) (by decide) (am_L.s f1 1 rfl) ?_
  refine Ev.mmin we_68 wd_74 wd_6 wd_75 (am_dt kX5_read 40 rfl) (Nat.le_of_ble_eq_true rfl) ?_
  refine Ev.mmax we_69 wd_5 wd_6 wd_7 (am_dt kX5_read 41 rfl) (Nat.le_of_ble_eq_true rfl) ?_
  refine Ev.callS (v := mJ7_copyOf_59c91) (As := [.ref (a0 + 2), .int (if 0 < (if (nI (hN h (a0 + 2))) < (hI h a0 4) then (nI (hN h (a0 + 2))) else (hI h a0 4)) then (if (nI (hN h (a0 + 2))) < (hI h a0 4) then (nI (hN h (a0 + 2))) else (hI h a0 4)) else 0)]) (st := [.ref (hR h a0 3)]) okJ7_copyOf_59c91 we_71 we_70 (am_dt kX5_read 42 rfl) rfl rfl (Nat.le_of_ble_eq_true rfl) (Nat.le_of_ble_eq_true rfl) ?_
  refine EvM.mono k (fun r4 h3 k => ?_)
  obtain ⟨v5, rfl, k⟩ := k
  show Ev w _ _ _ 85 _ [.ref v5, .ref (hR h a0 3)] _ _
  obtain ⟨f6, k⟩ := k
  obtain ⟨f7, k⟩ := k
  refine Ev.putR' (ci := 6) (k := 5) (am_dt kX5_read 43 rfl) (by decide) (by decide) we_72 rfl rfl rfl rfl f7 f6.1 (fun h8 eh8 => ?_)
  have k := k h8 eh8
  have f6 := am_LsR eh8 (by decide) f6
  refine Ev.aload_n 0 (am_dt kX5_read 44 rfl) rfl rfl ?_
  obtain ⟨f9, k⟩ := k
  refine Ev.getI (ci := 5) (k := 6) (am_dt kX5_read 45 rfl) (by decide) (by decide) rfl wd_105 f9.1 ?_
  exact Ev.iret .int (am_dt kX5_read 46 rfl) rfl rfl k
