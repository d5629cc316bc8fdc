/-! The law's body (laid by gen4.py). -/
def wx0 : List Cond := [Cond.methodLink "EvenFerryLaw" 15 yX9_init, Cond.instanceMethod yX9_init, Cond.methodLink "EvenFerryLaw" 18 yX10_init, Cond.instanceMethod yX10_init, Cond.classLink "EvenFerryLaw" 16 "EvenFerryModel", Cond.instantiable "EvenFerryModel" 55, Cond.classLink "EvenFerryLaw" 8 "EvenFerry", Cond.instantiable "EvenFerry" 9, Cond.constantLong "EvenFerryLaw" 19 4294967295, Cond.instanceMethod yX9_feed, Cond.selects "EvenFerry" yX9_feed yX9_feed, Cond.methodLink "EvenFerryLaw" 21 yX9_feed, Cond.instanceMethod yX10_feed, Cond.selects "EvenFerryModel" yX10_feed yX10_feed, Cond.methodLink "EvenFerryLaw" 25 yX10_feed, Cond.instanceMethod yX9_river, Cond.selects "EvenFerry" yX9_river yX9_river, Cond.methodLink "EvenFerryLaw" 26 yX9_river, Cond.instanceMethod yX10_river, Cond.selects "EvenFerryModel" yX10_river yX10_river, Cond.methodLink "EvenFerryLaw" 30 yX10_river, Cond.instanceMethod yX9_person, Cond.selects "EvenFerry" yX9_person yX9_person, Cond.methodLink "EvenFerryLaw" 31 yX9_person, Cond.instanceMethod yX10_person, Cond.selects "EvenFerryModel" yX10_person yX10_person, Cond.methodLink "EvenFerryLaw" 34 yX10_person, Cond.instanceMethod yX9_use, Cond.selects "EvenFerry" yX9_use yX9_use, Cond.methodLink "EvenFerryLaw" 35 yX9_use, Cond.instanceMethod yX10_use, Cond.selects "EvenFerryModel" yX10_use yX10_use, Cond.methodLink "EvenFerryLaw" 39 yX10_use, Cond.instanceMethod yX9_rings, Cond.selects "EvenFerry" yX9_rings yX9_rings, Cond.methodLink "EvenFerryLaw" 40 yX9_rings, Cond.instanceMethod yX10_rings, Cond.selects "EvenFerryModel" yX10_rings yX10_rings, Cond.methodLink "EvenFerryLaw" 43 yX10_rings, Cond.instanceMethod yX9_ring, Cond.selects "EvenFerry" yX9_ring yX9_ring, Cond.methodLink "EvenFerryLaw" 44 yX9_ring, Cond.instanceMethod yX10_ring, Cond.selects "EvenFerryModel" yX10_ring yX10_ring, Cond.methodLink "EvenFerryLaw" 47 yX10_ring, Cond.instanceMethod yX9_waits, Cond.selects "EvenFerry" yX9_waits yX9_waits, Cond.methodLink "EvenFerryLaw" 48 yX9_waits, Cond.instanceMethod yX10_waits, Cond.selects "EvenFerryModel" yX10_waits yX10_waits, Cond.methodLink "EvenFerryLaw" 51 yX10_waits, Cond.instanceMethod yX9_all, Cond.selects "EvenFerry" yX9_all yX9_all, Cond.methodLink "EvenFerryLaw" 52 yX9_all, Cond.instanceMethod yX10_all, Cond.selects "EvenFerryModel" yX10_all yX10_all, Cond.methodLink "EvenFerryLaw" 56 yX10_all, Cond.instanceMethod yX9_bank, Cond.selects "EvenFerry" yX9_bank yX9_bank, Cond.methodLink "EvenFerryLaw" 57 yX9_bank]
set_option maxRecDepth 100000 in
theorem wx0_e : wx0 = [117, 118, 1261, 1262, 1259, 1260, 115, 116, 1779, 552, 553, 551, 1441, 1442, 1440, 560, 561, 559, 1446, 1447, 1445, 832, 833, 831, 1565, 1566, 1564, 841, 842, 840, 1576, 1577, 1575, 845, 846, 844, 1580, 1581, 1579, 953, 954, 952, 1641, 1642, 1640, 957, 958, 956, 1645, 1646, 1644, 965, 966, 964, 1653, 1654, 1652, 986, 987, 985].filterMap (fun i => lw_tbl[i]?) := by decide +kernel
set_option maxRecDepth 100000 in
theorem wx0_g : wx0.all goodWord = true := by decide +kernel
theorem wx0_m {x : Cond} (i : Nat) (h : wx0[i]? = some x) : x ∈ am_big := am_wl wx0_e wx0_g (List.mem_of_getElem? h)
theorem wf_0 : Cond.methodLink "EvenFerryLaw" 15 yX9_init ∈ am_big := wx0_m 0 rfl
theorem wf_1 : Cond.instanceMethod yX9_init ∈ am_big := wx0_m 1 rfl
theorem wf_2 : Cond.methodLink "EvenFerryLaw" 18 yX10_init ∈ am_big := wx0_m 2 rfl
theorem wf_3 : Cond.instanceMethod yX10_init ∈ am_big := wx0_m 3 rfl
theorem wf_4 : Cond.classLink "EvenFerryLaw" 16 "EvenFerryModel" ∈ am_big := wx0_m 4 rfl
theorem wf_5 : Cond.instantiable "EvenFerryModel" 55 ∈ am_big := wx0_m 5 rfl
theorem wf_6 : Cond.classLink "EvenFerryLaw" 8 "EvenFerry" ∈ am_big := wx0_m 6 rfl
theorem wf_7 : Cond.instantiable "EvenFerry" 9 ∈ am_big := wx0_m 7 rfl
theorem wf_8 : Cond.constantLong "EvenFerryLaw" 19 4294967295 ∈ am_big := wx0_m 8 rfl
theorem wf_9 : Cond.instanceMethod yX9_feed ∈ am_big := wx0_m 9 rfl
theorem wf_10 : Cond.selects "EvenFerry" yX9_feed yX9_feed ∈ am_big := wx0_m 10 rfl
theorem wf_11 : Cond.methodLink "EvenFerryLaw" 21 yX9_feed ∈ am_big := wx0_m 11 rfl
theorem wf_12 : Cond.instanceMethod yX10_feed ∈ am_big := wx0_m 12 rfl
theorem wf_13 : Cond.selects "EvenFerryModel" yX10_feed yX10_feed ∈ am_big := wx0_m 13 rfl
theorem wf_14 : Cond.methodLink "EvenFerryLaw" 25 yX10_feed ∈ am_big := wx0_m 14 rfl
theorem wf_15 : Cond.instanceMethod yX9_river ∈ am_big := wx0_m 15 rfl
theorem wf_16 : Cond.selects "EvenFerry" yX9_river yX9_river ∈ am_big := wx0_m 16 rfl
theorem wf_17 : Cond.methodLink "EvenFerryLaw" 26 yX9_river ∈ am_big := wx0_m 17 rfl
theorem wf_18 : Cond.instanceMethod yX10_river ∈ am_big := wx0_m 18 rfl
theorem wf_19 : Cond.selects "EvenFerryModel" yX10_river yX10_river ∈ am_big := wx0_m 19 rfl
theorem wf_20 : Cond.methodLink "EvenFerryLaw" 30 yX10_river ∈ am_big := wx0_m 20 rfl
theorem wf_21 : Cond.instanceMethod yX9_person ∈ am_big := wx0_m 21 rfl
theorem wf_22 : Cond.selects "EvenFerry" yX9_person yX9_person ∈ am_big := wx0_m 22 rfl
theorem wf_23 : Cond.methodLink "EvenFerryLaw" 31 yX9_person ∈ am_big := wx0_m 23 rfl
theorem wf_24 : Cond.instanceMethod yX10_person ∈ am_big := wx0_m 24 rfl
theorem wf_25 : Cond.selects "EvenFerryModel" yX10_person yX10_person ∈ am_big := wx0_m 25 rfl
theorem wf_26 : Cond.methodLink "EvenFerryLaw" 34 yX10_person ∈ am_big := wx0_m 26 rfl
theorem wf_27 : Cond.instanceMethod yX9_use ∈ am_big := wx0_m 27 rfl
theorem wf_28 : Cond.selects "EvenFerry" yX9_use yX9_use ∈ am_big := wx0_m 28 rfl
theorem wf_29 : Cond.methodLink "EvenFerryLaw" 35 yX9_use ∈ am_big := wx0_m 29 rfl
theorem wf_30 : Cond.instanceMethod yX10_use ∈ am_big := wx0_m 30 rfl
theorem wf_31 : Cond.selects "EvenFerryModel" yX10_use yX10_use ∈ am_big := wx0_m 31 rfl
theorem wf_32 : Cond.methodLink "EvenFerryLaw" 39 yX10_use ∈ am_big := wx0_m 32 rfl
theorem wf_33 : Cond.instanceMethod yX9_rings ∈ am_big := wx0_m 33 rfl
theorem wf_34 : Cond.selects "EvenFerry" yX9_rings yX9_rings ∈ am_big := wx0_m 34 rfl
theorem wf_35 : Cond.methodLink "EvenFerryLaw" 40 yX9_rings ∈ am_big := wx0_m 35 rfl
theorem wf_36 : Cond.instanceMethod yX10_rings ∈ am_big := wx0_m 36 rfl
theorem wf_37 : Cond.selects "EvenFerryModel" yX10_rings yX10_rings ∈ am_big := wx0_m 37 rfl
theorem wf_38 : Cond.methodLink "EvenFerryLaw" 43 yX10_rings ∈ am_big := wx0_m 38 rfl
theorem wf_39 : Cond.instanceMethod yX9_ring ∈ am_big := wx0_m 39 rfl
theorem wf_40 : Cond.selects "EvenFerry" yX9_ring yX9_ring ∈ am_big := wx0_m 40 rfl
theorem wf_41 : Cond.methodLink "EvenFerryLaw" 44 yX9_ring ∈ am_big := wx0_m 41 rfl
theorem wf_42 : Cond.instanceMethod yX10_ring ∈ am_big := wx0_m 42 rfl
theorem wf_43 : Cond.selects "EvenFerryModel" yX10_ring yX10_ring ∈ am_big := wx0_m 43 rfl
theorem wf_44 : Cond.methodLink "EvenFerryLaw" 47 yX10_ring ∈ am_big := wx0_m 44 rfl
theorem wf_45 : Cond.instanceMethod yX9_waits ∈ am_big := wx0_m 45 rfl
theorem wf_46 : Cond.selects "EvenFerry" yX9_waits yX9_waits ∈ am_big := wx0_m 46 rfl
theorem wf_47 : Cond.methodLink "EvenFerryLaw" 48 yX9_waits ∈ am_big := wx0_m 47 rfl
theorem wf_48 : Cond.instanceMethod yX10_waits ∈ am_big := wx0_m 48 rfl
theorem wf_49 : Cond.selects "EvenFerryModel" yX10_waits yX10_waits ∈ am_big := wx0_m 49 rfl
theorem wf_50 : Cond.methodLink "EvenFerryLaw" 51 yX10_waits ∈ am_big := wx0_m 50 rfl
theorem wf_51 : Cond.instanceMethod yX9_all ∈ am_big := wx0_m 51 rfl
theorem wf_52 : Cond.selects "EvenFerry" yX9_all yX9_all ∈ am_big := wx0_m 52 rfl
theorem wf_53 : Cond.methodLink "EvenFerryLaw" 52 yX9_all ∈ am_big := wx0_m 53 rfl
theorem wf_54 : Cond.instanceMethod yX10_all ∈ am_big := wx0_m 54 rfl
theorem wf_55 : Cond.selects "EvenFerryModel" yX10_all yX10_all ∈ am_big := wx0_m 55 rfl
theorem wf_56 : Cond.methodLink "EvenFerryLaw" 56 yX10_all ∈ am_big := wx0_m 56 rfl
theorem wf_57 : Cond.instanceMethod yX9_bank ∈ am_big := wx0_m 57 rfl
theorem wf_58 : Cond.selects "EvenFerry" yX9_bank yX9_bank ∈ am_big := wx0_m 58 rfl
theorem wf_59 : Cond.methodLink "EvenFerryLaw" 57 yX9_bank ∈ am_big := wx0_m 59 rfl
def wx1 : List Cond := [Cond.instanceMethod yX10_bank, Cond.selects "EvenFerryModel" yX10_bank yX10_bank, Cond.methodLink "EvenFerryLaw" 61 yX10_bank, Cond.instanceMethod yX9_send, Cond.selects "EvenFerry" yX9_send yX9_send, Cond.methodLink "EvenFerryLaw" 62 yX9_send, Cond.instanceMethod yX10_send, Cond.selects "EvenFerryModel" yX10_send yX10_send, Cond.methodLink "EvenFerryLaw" 65 yX10_send, Cond.instanceMethod yX9_asks, Cond.selects "EvenFerry" yX9_asks yX9_asks, Cond.methodLink "EvenFerryLaw" 75 yX9_asks, Cond.instanceMethod yX10_asks, Cond.selects "EvenFerryModel" yX10_asks yX10_asks, Cond.methodLink "EvenFerryLaw" 78 yX10_asks, Cond.instanceMethod yX9_choice, Cond.selects "EvenFerry" yX9_choice yX9_choice, Cond.methodLink "EvenFerryLaw" 79 yX9_choice, Cond.instanceMethod yX10_choice, Cond.selects "EvenFerryModel" yX10_choice yX10_choice, Cond.methodLink "EvenFerryLaw" 82 yX10_choice, Cond.instanceMethod yX9_chosen, Cond.selects "EvenFerry" yX9_chosen yX9_chosen, Cond.methodLink "EvenFerryLaw" 83 yX9_chosen, Cond.instanceMethod yX10_chosen, Cond.selects "EvenFerryModel" yX10_chosen yX10_chosen, Cond.methodLink "EvenFerryLaw" 86 yX10_chosen, Cond.instanceMethod yX9_rests, Cond.selects "EvenFerry" yX9_rests yX9_rests, Cond.methodLink "EvenFerryLaw" 87 yX9_rests, Cond.instanceMethod yX10_rests, Cond.selects "EvenFerryModel" yX10_rests yX10_rests, Cond.methodLink "EvenFerryLaw" 90 yX10_rests, Cond.instanceMethod yX9_rest, Cond.selects "EvenFerry" yX9_rest yX9_rest, Cond.methodLink "EvenFerryLaw" 91 yX9_rest, Cond.instanceMethod yX10_rest, Cond.selects "EvenFerryModel" yX10_rest yX10_rest, Cond.methodLink "EvenFerryLaw" 94 yX10_rest, Cond.instanceMethod yX9_tell, Cond.selects "EvenFerry" yX9_tell yX9_tell, Cond.methodLink "EvenFerryLaw" 95 yX9_tell, Cond.instanceMethod yX10_tell, Cond.selects "EvenFerryModel" yX10_tell yX10_tell, Cond.methodLink "EvenFerryLaw" 98 yX10_tell, Cond.instanceMethod yX9_clear, Cond.selects "EvenFerry" yX9_clear yX9_clear, Cond.methodLink "EvenFerryLaw" 99 yX9_clear, Cond.instanceMethod yX10_clear, Cond.selects "EvenFerryModel" yX10_clear yX10_clear, Cond.methodLink "EvenFerryLaw" 103 yX10_clear, Cond.instanceMethod yX9_judged, Cond.selects "EvenFerry" yX9_judged yX9_judged, Cond.methodLink "EvenFerryLaw" 104 yX9_judged, Cond.instanceMethod yX10_judged, Cond.selects "EvenFerryModel" yX10_judged yX10_judged, Cond.methodLink "EvenFerryLaw" 107 yX10_judged, Cond.instanceMethod yX9_likely, Cond.selects "EvenFerry" yX9_likely yX9_likely, Cond.methodLink "EvenFerryLaw" 108 yX9_likely]
set_option maxRecDepth 100000 in
theorem wx1_e : wx1 = [1661, 1662, 1660, 1009, 1010, 1008, 1672, 1673, 1671, 1023, 1024, 1022, 1692, 1693, 1691, 1039, 1040, 1038, 1696, 1697, 1695, 1070, 1071, 1069, 1704, 1705, 1703, 1075, 1076, 1074, 1708, 1709, 1707, 1079, 1080, 1078, 1716, 1717, 1715, 1083, 1084, 1082, 1720, 1721, 1719, 1094, 1095, 1093, 1724, 1725, 1723, 1098, 1099, 1097, 1728, 1729, 1727, 1110, 1111, 1109].filterMap (fun i => lw_tbl[i]?) := by decide +kernel
set_option maxRecDepth 100000 in
theorem wx1_g : wx1.all goodWord = true := by decide +kernel
theorem wx1_m {x : Cond} (i : Nat) (h : wx1[i]? = some x) : x ∈ am_big := am_wl wx1_e wx1_g (List.mem_of_getElem? h)
theorem wf_60 : Cond.instanceMethod yX10_bank ∈ am_big := wx1_m 0 rfl
theorem wf_61 : Cond.selects "EvenFerryModel" yX10_bank yX10_bank ∈ am_big := wx1_m 1 rfl
theorem wf_62 : Cond.methodLink "EvenFerryLaw" 61 yX10_bank ∈ am_big := wx1_m 2 rfl
theorem wf_63 : Cond.instanceMethod yX9_send ∈ am_big := wx1_m 3 rfl
theorem wf_64 : Cond.selects "EvenFerry" yX9_send yX9_send ∈ am_big := wx1_m 4 rfl
theorem wf_65 : Cond.methodLink "EvenFerryLaw" 62 yX9_send ∈ am_big := wx1_m 5 rfl
theorem wf_66 : Cond.instanceMethod yX10_send ∈ am_big := wx1_m 6 rfl
theorem wf_67 : Cond.selects "EvenFerryModel" yX10_send yX10_send ∈ am_big := wx1_m 7 rfl
theorem wf_68 : Cond.methodLink "EvenFerryLaw" 65 yX10_send ∈ am_big := wx1_m 8 rfl
theorem wf_69 : Cond.instanceMethod yX9_asks ∈ am_big := wx1_m 9 rfl
theorem wf_70 : Cond.selects "EvenFerry" yX9_asks yX9_asks ∈ am_big := wx1_m 10 rfl
theorem wf_71 : Cond.methodLink "EvenFerryLaw" 75 yX9_asks ∈ am_big := wx1_m 11 rfl
theorem wf_72 : Cond.instanceMethod yX10_asks ∈ am_big := wx1_m 12 rfl
theorem wf_73 : Cond.selects "EvenFerryModel" yX10_asks yX10_asks ∈ am_big := wx1_m 13 rfl
theorem wf_74 : Cond.methodLink "EvenFerryLaw" 78 yX10_asks ∈ am_big := wx1_m 14 rfl
theorem wf_75 : Cond.instanceMethod yX9_choice ∈ am_big := wx1_m 15 rfl
theorem wf_76 : Cond.selects "EvenFerry" yX9_choice yX9_choice ∈ am_big := wx1_m 16 rfl
theorem wf_77 : Cond.methodLink "EvenFerryLaw" 79 yX9_choice ∈ am_big := wx1_m 17 rfl
theorem wf_78 : Cond.instanceMethod yX10_choice ∈ am_big := wx1_m 18 rfl
theorem wf_79 : Cond.selects "EvenFerryModel" yX10_choice yX10_choice ∈ am_big := wx1_m 19 rfl
theorem wf_80 : Cond.methodLink "EvenFerryLaw" 82 yX10_choice ∈ am_big := wx1_m 20 rfl
theorem wf_81 : Cond.instanceMethod yX9_chosen ∈ am_big := wx1_m 21 rfl
theorem wf_82 : Cond.selects "EvenFerry" yX9_chosen yX9_chosen ∈ am_big := wx1_m 22 rfl
theorem wf_83 : Cond.methodLink "EvenFerryLaw" 83 yX9_chosen ∈ am_big := wx1_m 23 rfl
theorem wf_84 : Cond.instanceMethod yX10_chosen ∈ am_big := wx1_m 24 rfl
theorem wf_85 : Cond.selects "EvenFerryModel" yX10_chosen yX10_chosen ∈ am_big := wx1_m 25 rfl
theorem wf_86 : Cond.methodLink "EvenFerryLaw" 86 yX10_chosen ∈ am_big := wx1_m 26 rfl
theorem wf_87 : Cond.instanceMethod yX9_rests ∈ am_big := wx1_m 27 rfl
theorem wf_88 : Cond.selects "EvenFerry" yX9_rests yX9_rests ∈ am_big := wx1_m 28 rfl
theorem wf_89 : Cond.methodLink "EvenFerryLaw" 87 yX9_rests ∈ am_big := wx1_m 29 rfl
theorem wf_90 : Cond.instanceMethod yX10_rests ∈ am_big := wx1_m 30 rfl
theorem wf_91 : Cond.selects "EvenFerryModel" yX10_rests yX10_rests ∈ am_big := wx1_m 31 rfl
theorem wf_92 : Cond.methodLink "EvenFerryLaw" 90 yX10_rests ∈ am_big := wx1_m 32 rfl
theorem wf_93 : Cond.instanceMethod yX9_rest ∈ am_big := wx1_m 33 rfl
theorem wf_94 : Cond.selects "EvenFerry" yX9_rest yX9_rest ∈ am_big := wx1_m 34 rfl
theorem wf_95 : Cond.methodLink "EvenFerryLaw" 91 yX9_rest ∈ am_big := wx1_m 35 rfl
theorem wf_96 : Cond.instanceMethod yX10_rest ∈ am_big := wx1_m 36 rfl
theorem wf_97 : Cond.selects "EvenFerryModel" yX10_rest yX10_rest ∈ am_big := wx1_m 37 rfl
theorem wf_98 : Cond.methodLink "EvenFerryLaw" 94 yX10_rest ∈ am_big := wx1_m 38 rfl
theorem wf_99 : Cond.instanceMethod yX9_tell ∈ am_big := wx1_m 39 rfl
theorem wf_100 : Cond.selects "EvenFerry" yX9_tell yX9_tell ∈ am_big := wx1_m 40 rfl
theorem wf_101 : Cond.methodLink "EvenFerryLaw" 95 yX9_tell ∈ am_big := wx1_m 41 rfl
theorem wf_102 : Cond.instanceMethod yX10_tell ∈ am_big := wx1_m 42 rfl
theorem wf_103 : Cond.selects "EvenFerryModel" yX10_tell yX10_tell ∈ am_big := wx1_m 43 rfl
theorem wf_104 : Cond.methodLink "EvenFerryLaw" 98 yX10_tell ∈ am_big := wx1_m 44 rfl
theorem wf_105 : Cond.instanceMethod yX9_clear ∈ am_big := wx1_m 45 rfl
theorem wf_106 : Cond.selects "EvenFerry" yX9_clear yX9_clear ∈ am_big := wx1_m 46 rfl
theorem wf_107 : Cond.methodLink "EvenFerryLaw" 99 yX9_clear ∈ am_big := wx1_m 47 rfl
theorem wf_108 : Cond.instanceMethod yX10_clear ∈ am_big := wx1_m 48 rfl
theorem wf_109 : Cond.selects "EvenFerryModel" yX10_clear yX10_clear ∈ am_big := wx1_m 49 rfl
theorem wf_110 : Cond.methodLink "EvenFerryLaw" 103 yX10_clear ∈ am_big := wx1_m 50 rfl
theorem wf_111 : Cond.instanceMethod yX9_judged ∈ am_big := wx1_m 51 rfl
theorem wf_112 : Cond.selects "EvenFerry" yX9_judged yX9_judged ∈ am_big := wx1_m 52 rfl
theorem wf_113 : Cond.methodLink "EvenFerryLaw" 104 yX9_judged ∈ am_big := wx1_m 53 rfl
theorem wf_114 : Cond.instanceMethod yX10_judged ∈ am_big := wx1_m 54 rfl
theorem wf_115 : Cond.selects "EvenFerryModel" yX10_judged yX10_judged ∈ am_big := wx1_m 55 rfl
theorem wf_116 : Cond.methodLink "EvenFerryLaw" 107 yX10_judged ∈ am_big := wx1_m 56 rfl
theorem wf_117 : Cond.instanceMethod yX9_likely ∈ am_big := wx1_m 57 rfl
theorem wf_118 : Cond.selects "EvenFerry" yX9_likely yX9_likely ∈ am_big := wx1_m 58 rfl
theorem wf_119 : Cond.methodLink "EvenFerryLaw" 108 yX9_likely ∈ am_big := wx1_m 59 rfl
def wx2 : List Cond := [Cond.instanceMethod yX10_likely, Cond.selects "EvenFerryModel" yX10_likely yX10_likely, Cond.methodLink "EvenFerryLaw" 112 yX10_likely, Cond.instanceMethod yX9_mean, Cond.selects "EvenFerry" yX9_mean yX9_mean, Cond.methodLink "EvenFerryLaw" 113 yX9_mean, Cond.instanceMethod yX10_mean, Cond.selects "EvenFerryModel" yX10_mean yX10_mean, Cond.methodLink "EvenFerryLaw" 116 yX10_mean, Cond.instanceMethod yX9_came, Cond.selects "EvenFerry" yX9_came yX9_came, Cond.methodLink "EvenFerryLaw" 117 yX9_came, Cond.instanceMethod yX10_came, Cond.selects "EvenFerryModel" yX10_came yX10_came, Cond.methodLink "EvenFerryLaw" 121 yX10_came, Cond.instanceMethod yX9_lots, Cond.selects "EvenFerry" yX9_lots yX9_lots, Cond.methodLink "EvenFerryLaw" 122 yX9_lots, Cond.instanceMethod yX10_lots, Cond.selects "EvenFerryModel" yX10_lots yX10_lots, Cond.methodLink "EvenFerryLaw" 125 yX10_lots, Cond.instanceMethod yX9_best, Cond.selects "EvenFerry" yX9_best yX9_best, Cond.methodLink "EvenFerryLaw" 126 yX9_best, Cond.instanceMethod yX10_best, Cond.selects "EvenFerryModel" yX10_best yX10_best, Cond.methodLink "EvenFerryLaw" 129 yX10_best, Cond.instanceMethod yX9_count, Cond.selects "EvenFerry" yX9_count yX9_count, Cond.methodLink "EvenFerryLaw" 135 yX9_count, Cond.instanceMethod yX10_count, Cond.selects "EvenFerryModel" yX10_count yX10_count, Cond.methodLink "EvenFerryLaw" 138 yX10_count, Cond.instanceMethod yX9_mark, Cond.selects "EvenFerry" yX9_mark yX9_mark, Cond.methodLink "EvenFerryLaw" 130 yX9_mark, Cond.instanceMethod yX10_mark, Cond.selects "EvenFerryModel" yX10_mark yX10_mark, Cond.methodLink "EvenFerryLaw" 134 yX10_mark, Cond.instanceMethod yX10_turn, Cond.selects "EvenFerryModel" yX10_turn yX10_turn, Cond.methodLink "EvenFerryLaw" 71 yX10_turn, Cond.instanceMethod yX10_thrown, Cond.selects "EvenFerryModel" yX10_thrown yX10_thrown, Cond.methodLink "EvenFerryLaw" 72 yX10_thrown]
set_option maxRecDepth 100000 in
theorem wx2_e : wx2 = [1732, 1733, 1731, 1129, 1130, 1128, 1748, 1749, 1747, 1133, 1134, 1132, 1752, 1753, 1751, 1137, 1138, 1136, 1756, 1757, 1755, 1171, 1172, 1170, 1768, 1769, 1767, 1183, 1184, 1182, 1776, 1777, 1775, 1175, 1176, 1174, 1772, 1773, 1771, 1680, 1681, 1679, 1437, 1438, 1436].filterMap (fun i => lw_tbl[i]?) := by decide +kernel
set_option maxRecDepth 100000 in
theorem wx2_g : wx2.all goodWord = true := by decide +kernel
theorem wx2_m {x : Cond} (i : Nat) (h : wx2[i]? = some x) : x ∈ am_big := am_wl wx2_e wx2_g (List.mem_of_getElem? h)
theorem wf_120 : Cond.instanceMethod yX10_likely ∈ am_big := wx2_m 0 rfl
theorem wf_121 : Cond.selects "EvenFerryModel" yX10_likely yX10_likely ∈ am_big := wx2_m 1 rfl
theorem wf_122 : Cond.methodLink "EvenFerryLaw" 112 yX10_likely ∈ am_big := wx2_m 2 rfl
theorem wf_123 : Cond.instanceMethod yX9_mean ∈ am_big := wx2_m 3 rfl
theorem wf_124 : Cond.selects "EvenFerry" yX9_mean yX9_mean ∈ am_big := wx2_m 4 rfl
theorem wf_125 : Cond.methodLink "EvenFerryLaw" 113 yX9_mean ∈ am_big := wx2_m 5 rfl
theorem wf_126 : Cond.instanceMethod yX10_mean ∈ am_big := wx2_m 6 rfl
theorem wf_127 : Cond.selects "EvenFerryModel" yX10_mean yX10_mean ∈ am_big := wx2_m 7 rfl
theorem wf_128 : Cond.methodLink "EvenFerryLaw" 116 yX10_mean ∈ am_big := wx2_m 8 rfl
theorem wf_129 : Cond.instanceMethod yX9_came ∈ am_big := wx2_m 9 rfl
theorem wf_130 : Cond.selects "EvenFerry" yX9_came yX9_came ∈ am_big := wx2_m 10 rfl
theorem wf_131 : Cond.methodLink "EvenFerryLaw" 117 yX9_came ∈ am_big := wx2_m 11 rfl
theorem wf_132 : Cond.instanceMethod yX10_came ∈ am_big := wx2_m 12 rfl
theorem wf_133 : Cond.selects "EvenFerryModel" yX10_came yX10_came ∈ am_big := wx2_m 13 rfl
theorem wf_134 : Cond.methodLink "EvenFerryLaw" 121 yX10_came ∈ am_big := wx2_m 14 rfl
theorem wf_135 : Cond.instanceMethod yX9_lots ∈ am_big := wx2_m 15 rfl
theorem wf_136 : Cond.selects "EvenFerry" yX9_lots yX9_lots ∈ am_big := wx2_m 16 rfl
theorem wf_137 : Cond.methodLink "EvenFerryLaw" 122 yX9_lots ∈ am_big := wx2_m 17 rfl
theorem wf_138 : Cond.instanceMethod yX10_lots ∈ am_big := wx2_m 18 rfl
theorem wf_139 : Cond.selects "EvenFerryModel" yX10_lots yX10_lots ∈ am_big := wx2_m 19 rfl
theorem wf_140 : Cond.methodLink "EvenFerryLaw" 125 yX10_lots ∈ am_big := wx2_m 20 rfl
theorem wf_141 : Cond.instanceMethod yX9_best ∈ am_big := wx2_m 21 rfl
theorem wf_142 : Cond.selects "EvenFerry" yX9_best yX9_best ∈ am_big := wx2_m 22 rfl
theorem wf_143 : Cond.methodLink "EvenFerryLaw" 126 yX9_best ∈ am_big := wx2_m 23 rfl
theorem wf_144 : Cond.instanceMethod yX10_best ∈ am_big := wx2_m 24 rfl
theorem wf_145 : Cond.selects "EvenFerryModel" yX10_best yX10_best ∈ am_big := wx2_m 25 rfl
theorem wf_146 : Cond.methodLink "EvenFerryLaw" 129 yX10_best ∈ am_big := wx2_m 26 rfl
theorem wf_147 : Cond.instanceMethod yX9_count ∈ am_big := wx2_m 27 rfl
theorem wf_148 : Cond.selects "EvenFerry" yX9_count yX9_count ∈ am_big := wx2_m 28 rfl
theorem wf_149 : Cond.methodLink "EvenFerryLaw" 135 yX9_count ∈ am_big := wx2_m 29 rfl
theorem wf_150 : Cond.instanceMethod yX10_count ∈ am_big := wx2_m 30 rfl
theorem wf_151 : Cond.selects "EvenFerryModel" yX10_count yX10_count ∈ am_big := wx2_m 31 rfl
theorem wf_152 : Cond.methodLink "EvenFerryLaw" 138 yX10_count ∈ am_big := wx2_m 32 rfl
theorem wf_153 : Cond.instanceMethod yX9_mark ∈ am_big := wx2_m 33 rfl
theorem wf_154 : Cond.selects "EvenFerry" yX9_mark yX9_mark ∈ am_big := wx2_m 34 rfl
theorem wf_155 : Cond.methodLink "EvenFerryLaw" 130 yX9_mark ∈ am_big := wx2_m 35 rfl
theorem wf_156 : Cond.instanceMethod yX10_mark ∈ am_big := wx2_m 36 rfl
theorem wf_157 : Cond.selects "EvenFerryModel" yX10_mark yX10_mark ∈ am_big := wx2_m 37 rfl
theorem wf_158 : Cond.methodLink "EvenFerryLaw" 134 yX10_mark ∈ am_big := wx2_m 38 rfl
theorem wf_159 : Cond.instanceMethod yX10_turn ∈ am_big := wx2_m 39 rfl
theorem wf_160 : Cond.selects "EvenFerryModel" yX10_turn yX10_turn ∈ am_big := wx2_m 40 rfl
theorem wf_161 : Cond.methodLink "EvenFerryLaw" 71 yX10_turn ∈ am_big := wx2_m 41 rfl
theorem wf_162 : Cond.instanceMethod yX10_thrown ∈ am_big := wx2_m 42 rfl
theorem wf_163 : Cond.selects "EvenFerryModel" yX10_thrown yX10_thrown ∈ am_big := wx2_m 43 rfl
theorem wf_164 : Cond.methodLink "EvenFerryLaw" 72 yX10_thrown ∈ am_big := wx2_m 44 rfl
set_option maxRecDepth 20000 in
set_option maxHeartbeats 2000000 in
theorem bL_law_0 {w : am_W} {d : Nat} {h : am_H} {Q : Option Value → am_H → Prop} {a0 : Nat}  {L : Nat} {xs : Nat → Int32} (hs : ScW w a0 L xs) (k : ∀ h1 : am_H, h1 = nO h 9 9 → (EvM w mX9_init d [.ref (hZ h)] h1 (fun r3 h2 => r3 = none ∧ (∀ h4 : am_H, h4 = nO h2 10 55 → (EvM w mX10_init d [.ref (hZ h2)] h4 (fun r6 h5 => r6 = none ∧ (∀ h7 : am_H, h7 = nA h5 13 1 → (Ev w (zL w a0) mL_law (d + 1) 23 [(0, .ref a0), (1, .ref (hZ h)), (2, .ref (hZ h2)), (3, .ref (hZ h5)), (4, .int 0)] [] h7 Q)))))))) : Ev w (zL w a0) mL_law (d + 1) 0 [(0, .ref a0)] [] h Q := by
  show Ev w (zL w a0) mL_law (d + 1) 0 [(0, .ref a0)] [] h Q
  refine Ev.newO' (ci := 9) (am_dt kL_law0 0 rfl) (by decide) wf_6 wf_7 wd_873 (fun h1 eh1 => ?_)
  have k := k h1 eh1
  refine Ev.dup (am_dt kL_law0 1 rfl) rfl ?_
  refine Ev.callI (v := mX9_init) (As := []) (st := [.ref (hZ h)]) okX9_init wf_1 rfl rfl wf_0 (am_dt kL_law0 2 rfl) rfl rfl (Nat.le_of_ble_eq_true rfl) (Nat.le_of_ble_eq_true rfl) ?_
  refine EvM.mono k (fun r3 h2 k => ?_)
  obtain ⟨rfl, k⟩ := k
  show Ev w _ _ _ 7 _ [.ref (hZ h)] _ _
  refine Ev.astore_n (lv' := [(1, .ref (hZ h)), (0, .ref a0)]) (am_dt kL_law0 3 rfl) rfl (by decide) rfl ?_
  refine Ev.newO' (ci := 10) (am_dt kL_law0 4 rfl) (by decide) wf_4 wf_5 wd_918 (fun h4 eh4 => ?_)
  have k := k h4 eh4
  refine Ev.dup (am_dt kL_law0 5 rfl) rfl ?_
  refine Ev.callI (v := mX10_init) (As := []) (st := [.ref (hZ h2)]) okX10_init wf_3 rfl rfl wf_2 (am_dt kL_law0 6 rfl) rfl rfl (Nat.le_of_ble_eq_true rfl) (Nat.le_of_ble_eq_true rfl) ?_
  refine EvM.mono k (fun r6 h5 k => ?_)
  obtain ⟨rfl, k⟩ := k
  show Ev w _ _ _ 15 _ [.ref (hZ h2)] _ _
  refine Ev.astore_n (lv' := [(2, .ref (hZ h2)), (1, .ref (hZ h)), (0, .ref a0)]) (am_dt kL_law0 7 rfl) rfl (by decide) rfl ?_
  refine Ev.iconst (v := 1) (am_dt kL_law0 8 rfl) (by decide) ?_
  refine Ev.newJ' (n := 1) (N := 1) (am_dt kL_law0 9 rfl) wd_101 (by decide) (by decide) (by decide) (fun h7 eh7 => ?_)
  have k := k h7 eh7
  refine Ev.astore_n (lv' := [(3, .ref (hZ h5)), (2, .ref (hZ h2)), (1, .ref (hZ h)), (0, .ref a0)]) (am_dt kL_law0 10 rfl) rfl (by decide) rfl ?_
  refine Ev.iconst (v := 0) (am_dt kL_law0 11 rfl) (by decide) ?_
  refine Ev.istore (lv' := [(4, .int 0), (3, .ref (hZ h5)), (2, .ref (hZ h2)), (1, .ref (hZ h)), (0, .ref a0)]) (am_dt kL_law0 12 rfl) (by decide) rfl ?_
  exact Ev.sub [4, 3, 2, 1, 0] rfl k
set_option maxRecDepth 20000 in
set_option maxHeartbeats 2000000 in
theorem bL_law_23 {w : am_W} {d : Nat} {h : am_H} {Q : Option Value → am_H → Prop} {a0 : Nat} {a1 : Nat} {a2 : Nat} {a3 : Nat} {x4 : Int32}  {L : Nat} {xs : Nat → Int32} (hs : ScW w a0 L xs) (k : (((nI L) - 7) < x4 → (Q (some (.int 1)) h)) ∧ (¬ ((nI L) - 7) < x4 → ((vp_in x4 L) ∧ ((((xs (Int32.toNatClampNeg x4)) &&& 31) = 0 → (Ev w (zL w a0) mL_law (d + 1) 160 [(0, .ref a0), (1, .ref a1), (2, .ref a2), (3, .ref a3), (4, .int x4)] [] h Q)) ∧ (¬ ((xs (Int32.toNatClampNeg x4)) &&& 31) = 0 → ((((xs (Int32.toNatClampNeg x4)) &&& 31) = 1 → (Ev w (zL w a0) mL_law (d + 1) 307 [(0, .ref a0), (1, .ref a1), (2, .ref a2), (3, .ref a3), (4, .int x4)] [] h Q)) ∧ (¬ ((xs (Int32.toNatClampNeg x4)) &&& 31) = 1 → ((((xs (Int32.toNatClampNeg x4)) &&& 31) = 2 → (Ev w (zL w a0) mL_law (d + 1) 320 [(0, .ref a0), (1, .ref a1), (2, .ref a2), (3, .ref a3), (4, .int x4)] [] h Q)) ∧ (¬ ((xs (Int32.toNatClampNeg x4)) &&& 31) = 2 → ((((xs (Int32.toNatClampNeg x4)) &&& 31) = 3 → (Ev w (zL w a0) mL_law (d + 1) 357 [(0, .ref a0), (1, .ref a1), (2, .ref a2), (3, .ref a3), (4, .int x4)] [] h Q)) ∧ (¬ ((xs (Int32.toNatClampNeg x4)) &&& 31) = 3 → ((((xs (Int32.toNatClampNeg x4)) &&& 31) = 4 → (Ev w (zL w a0) mL_law (d + 1) 382 [(0, .ref a0), (1, .ref a1), (2, .ref a2), (3, .ref a3), (4, .int x4)] [] h Q)) ∧ (¬ ((xs (Int32.toNatClampNeg x4)) &&& 31) = 4 → ((((xs (Int32.toNatClampNeg x4)) &&& 31) = 5 → (Ev w (zL w a0) mL_law (d + 1) 395 [(0, .ref a0), (1, .ref a1), (2, .ref a2), (3, .ref a3), (4, .int x4)] [] h Q)) ∧ (¬ ((xs (Int32.toNatClampNeg x4)) &&& 31) = 5 → ((((xs (Int32.toNatClampNeg x4)) &&& 31) = 6 → (Ev w (zL w a0) mL_law (d + 1) 432 [(0, .ref a0), (1, .ref a1), (2, .ref a2), (3, .ref a3), (4, .int x4)] [] h Q)) ∧ (¬ ((xs (Int32.toNatClampNeg x4)) &&& 31) = 6 → ((((xs (Int32.toNatClampNeg x4)) &&& 31) = 7 → (Ev w (zL w a0) mL_law (d + 1) 469 [(0, .ref a0), (1, .ref a1), (2, .ref a2), (3, .ref a3), (4, .int x4)] [] h Q)) ∧ (¬ ((xs (Int32.toNatClampNeg x4)) &&& 31) = 7 → ((((xs (Int32.toNatClampNeg x4)) &&& 31) = 8 → (Ev w (zL w a0) mL_law (d + 1) 494 [(0, .ref a0), (1, .ref a1), (2, .ref a2), (3, .ref a3), (4, .int x4)] [] h Q)) ∧ (¬ ((xs (Int32.toNatClampNeg x4)) &&& 31) = 8 → ((((xs (Int32.toNatClampNeg x4)) &&& 31) = 9 → (Ev w (zL w a0) mL_law (d + 1) 543 [(0, .ref a0), (1, .ref a1), (2, .ref a2), (3, .ref a3), (4, .int x4)] [] h Q)) ∧ (¬ ((xs (Int32.toNatClampNeg x4)) &&& 31) = 9 → ((((xs (Int32.toNatClampNeg x4)) &&& 31) = 10 → (Ev w (zL w a0) mL_law (d + 1) 580 [(0, .ref a0), (1, .ref a1), (2, .ref a2), (3, .ref a3), (4, .int x4)] [] h Q)) ∧ (¬ ((xs (Int32.toNatClampNeg x4)) &&& 31) = 10 → ((((xs (Int32.toNatClampNeg x4)) &&& 31) = 11 → (Ev w (zL w a0) mL_law (d + 1) 648 [(0, .ref a0), (1, .ref a1), (2, .ref a2), (3, .ref a3), (4, .int x4)] [] h Q)) ∧ (¬ ((xs (Int32.toNatClampNeg x4)) &&& 31) = 11 → ((((xs (Int32.toNatClampNeg x4)) &&& 31) = 12 → (Ev w (zL w a0) mL_law (d + 1) 673 [(0, .ref a0), (1, .ref a1), (2, .ref a2), (3, .ref a3), (4, .int x4)] [] h Q)) ∧ (¬ ((xs (Int32.toNatClampNeg x4)) &&& 31) = 12 → ((((xs (Int32.toNatClampNeg x4)) &&& 31) = 13 → (Ev w (zL w a0) mL_law (d + 1) 698 [(0, .ref a0), (1, .ref a1), (2, .ref a2), (3, .ref a3), (4, .int x4)] [] h Q)) ∧ (¬ ((xs (Int32.toNatClampNeg x4)) &&& 31) = 13 → ((((xs (Int32.toNatClampNeg x4)) &&& 31) = 14 → (Ev w (zL w a0) mL_law (d + 1) 723 [(0, .ref a0), (1, .ref a1), (2, .ref a2), (3, .ref a3), (4, .int x4)] [] h Q)) ∧ (¬ ((xs (Int32.toNatClampNeg x4)) &&& 31) = 14 → ((((xs (Int32.toNatClampNeg x4)) &&& 31) = 15 → (Ev w (zL w a0) mL_law (d + 1) 736 [(0, .ref a0), (1, .ref a1), (2, .ref a2), (3, .ref a3), (4, .int x4)] [] h Q)) ∧ (¬ ((xs (Int32.toNatClampNeg x4)) &&& 31) = 15 → ((((xs (Int32.toNatClampNeg x4)) &&& 31) = 16 → (Ev w (zL w a0) mL_law (d + 1) 761 [(0, .ref a0), (1, .ref a1), (2, .ref a2), (3, .ref a3), (4, .int x4)] [] h Q)) ∧ (¬ ((xs (Int32.toNatClampNeg x4)) &&& 31) = 16 → ((((xs (Int32.toNatClampNeg x4)) &&& 31) = 17 → (Ev w (zL w a0) mL_law (d + 1) 786 [(0, .ref a0), (1, .ref a1), (2, .ref a2), (3, .ref a3), (4, .int x4)] [] h Q)) ∧ (¬ ((xs (Int32.toNatClampNeg x4)) &&& 31) = 17 → ((((xs (Int32.toNatClampNeg x4)) &&& 31) = 18 → (Ev w (zL w a0) mL_law (d + 1) 799 [(0, .ref a0), (1, .ref a1), (2, .ref a2), (3, .ref a3), (4, .int x4)] [] h Q)) ∧ (¬ ((xs (Int32.toNatClampNeg x4)) &&& 31) = 18 → ((((xs (Int32.toNatClampNeg x4)) &&& 31) = 19 → (Ev w (zL w a0) mL_law (d + 1) 824 [(0, .ref a0), (1, .ref a1), (2, .ref a2), (3, .ref a3), (4, .int x4)] [] h Q)) ∧ (¬ ((xs (Int32.toNatClampNeg x4)) &&& 31) = 19 → ((((xs (Int32.toNatClampNeg x4)) &&& 31) = 20 → (Ev w (zL w a0) mL_law (d + 1) 862 [(0, .ref a0), (1, .ref a1), (2, .ref a2), (3, .ref a3), (4, .int x4)] [] h Q)) ∧ (¬ ((xs (Int32.toNatClampNeg x4)) &&& 31) = 20 → ((((xs (Int32.toNatClampNeg x4)) &&& 31) = 21 → (Ev w (zL w a0) mL_law (d + 1) 900 [(0, .ref a0), (1, .ref a1), (2, .ref a2), (3, .ref a3), (4, .int x4)] [] h Q)) ∧ (¬ ((xs (Int32.toNatClampNeg x4)) &&& 31) = 21 → ((((xs (Int32.toNatClampNeg x4)) &&& 31) = 22 → (Ev w (zL w a0) mL_law (d + 1) 926 [(0, .ref a0), (1, .ref a1), (2, .ref a2), (3, .ref a3), (4, .int x4)] [] h Q)) ∧ (¬ ((xs (Int32.toNatClampNeg x4)) &&& 31) = 22 → ((((xs (Int32.toNatClampNeg x4)) &&& 31) = 23 → (Ev w (zL w a0) mL_law (d + 1) 975 [(0, .ref a0), (1, .ref a1), (2, .ref a2), (3, .ref a3), (4, .int x4)] [] h Q)) ∧ (¬ ((xs (Int32.toNatClampNeg x4)) &&& 31) = 23 → ((((xs (Int32.toNatClampNeg x4)) &&& 31) = 24 → (Ev w (zL w a0) mL_law (d + 1) 988 [(0, .ref a0), (1, .ref a1), (2, .ref a2), (3, .ref a3), (4, .int x4)] [] h Q)) ∧ (¬ ((xs (Int32.toNatClampNeg x4)) &&& 31) = 24 → ((((xs (Int32.toNatClampNeg x4)) &&& 31) = 25 → (Ev w (zL w a0) mL_law (d + 1) 1041 [(0, .ref a0), (1, .ref a1), (2, .ref a2), (3, .ref a3), (4, .int x4)] [] h Q)) ∧ (¬ ((xs (Int32.toNatClampNeg x4)) &&& 31) = 25 → (Ev w (zL w a0) mL_law (d + 1) 1066 [(0, .ref a0), (1, .ref a1), (2, .ref a2), (3, .ref a3), (4, .int x4)] [] h Q)))))))))))))))))))))))))))))))))))))))))))))))))))))))) : Ev w (zL w a0) mL_law (d + 1) 23 [(0, .ref a0), (1, .ref a1), (2, .ref a2), (3, .ref a3), (4, .int x4)] [] h Q := by
  refine Ev.iload 4 (am_dt kL_law0 13 rfl) rfl ?_
  refine Ev.aload_n 0 (am_dt kL_law0 14 rfl) rfl rfl ?_
  refine Ev.scn hs (am_dt kL_law0 15 rfl) ?_
  refine Ev.bipush (v := 7) (am_dt kL_law0 16 rfl) (by decide) ?_
  refine Ev.isub (am_dt kL_law0 17 rfl) ?_
  refine Ev.icmp_gt (tgt := 1072) (am_dt kL_law0 18 rfl) (by decide) (fun c => ?_) (fun c => ?_)
  · have k := k.1 c
    refine Ev.iconst (v := 1) (am_dt kL_law16 20 rfl) (by decide) ?_
    exact Ev.lawRet (am_dt kL_law16 21 rfl) k
  · have k := k.2 c
    refine Ev.aload_n 0 (am_dt kL_law0 19 rfl) rfl rfl ?_
    refine Ev.iload 4 (am_dt kL_law0 20 rfl) rfl ?_
    obtain ⟨f1, k⟩ := k
    refine Ev.scl hs (am_dt kL_law0 21 rfl) f1 ?_
    refine Ev.bipush (v := 31) (am_dt kL_law0 22 rfl) (by decide) ?_
    refine Ev.iand (am_dt kL_law0 23 rfl) ?_
    by_cases c : ((xs (Int32.toNatClampNeg x4)) &&& 31) = 0
    · refine Ev.tableIn (off := 120) (tgt := 160) (am_dt kL_law0 24 rfl) (by rw [c]; decide) (by rw [c]; decide) (by rw [c]; rfl) (by decide) ?_
      have k := k.1 c
      exact k
    have k := k.2 c
    have c0 := am_ne (n := 0) (by decide) c
    clear c
    by_cases c : ((xs (Int32.toNatClampNeg x4)) &&& 31) = 1
    · refine Ev.tableIn (off := 267) (tgt := 307) (am_dt kL_law0 24 rfl) (by rw [c]; decide) (by rw [c]; decide) (by rw [c]; rfl) (by decide) ?_
      have k := k.1 c
      exact k
    have k := k.2 c
    have c1 := am_ne (n := 1) (by decide) c
    clear c
    by_cases c : ((xs (Int32.toNatClampNeg x4)) &&& 31) = 2
    · refine Ev.tableIn (off := 280) (tgt := 320) (am_dt kL_law0 24 rfl) (by rw [c]; decide) (by rw [c]; decide) (by rw [c]; rfl) (by decide) ?_
      have k := k.1 c
      exact k
    have k := k.2 c
    have c2 := am_ne (n := 2) (by decide) c
    clear c
    by_cases c : ((xs (Int32.toNatClampNeg x4)) &&& 31) = 3
    · refine Ev.tableIn (off := 317) (tgt := 357) (am_dt kL_law0 24 rfl) (by rw [c]; decide) (by rw [c]; decide) (by rw [c]; rfl) (by decide) ?_
      have k := k.1 c
      exact k
    have k := k.2 c
    have c3 := am_ne (n := 3) (by decide) c
    clear c
    by_cases c : ((xs (Int32.toNatClampNeg x4)) &&& 31) = 4
    · refine Ev.tableIn (off := 342) (tgt := 382) (am_dt kL_law0 24 rfl) (by rw [c]; decide) (by rw [c]; decide) (by rw [c]; rfl) (by decide) ?_
      have k := k.1 c
      exact k
    have k := k.2 c
    have c4 := am_ne (n := 4) (by decide) c
    clear c
    by_cases c : ((xs (Int32.toNatClampNeg x4)) &&& 31) = 5
    · refine Ev.tableIn (off := 355) (tgt := 395) (am_dt kL_law0 24 rfl) (by rw [c]; decide) (by rw [c]; decide) (by rw [c]; rfl) (by decide) ?_
      have k := k.1 c
      exact k
    have k := k.2 c
    have c5 := am_ne (n := 5) (by decide) c
    clear c
    by_cases c : ((xs (Int32.toNatClampNeg x4)) &&& 31) = 6
    · refine Ev.tableIn (off := 392) (tgt := 432) (am_dt kL_law0 24 rfl) (by rw [c]; decide) (by rw [c]; decide) (by rw [c]; rfl) (by decide) ?_
      have k := k.1 c
      exact k
    have k := k.2 c
    have c6 := am_ne (n := 6) (by decide) c
    clear c
    by_cases c : ((xs (Int32.toNatClampNeg x4)) &&& 31) = 7
    · refine Ev.tableIn (off := 429) (tgt := 469) (am_dt kL_law0 24 rfl) (by rw [c]; decide) (by rw [c]; decide) (by rw [c]; rfl) (by decide) ?_
      have k := k.1 c
      exact k
    have k := k.2 c
    have c7 := am_ne (n := 7) (by decide) c
    clear c
    by_cases c : ((xs (Int32.toNatClampNeg x4)) &&& 31) = 8
    · refine Ev.tableIn (off := 454) (tgt := 494) (am_dt kL_law0 24 rfl) (by rw [c]; decide) (by rw [c]; decide) (by rw [c]; rfl) (by decide) ?_
      have k := k.1 c
      exact k
    have k := k.2 c
    have c8 := am_ne (n := 8) (by decide) c
    clear c
    by_cases c : ((xs (Int32.toNatClampNeg x4)) &&& 31) = 9
    · refine Ev.tableIn (off := 503) (tgt := 543) (am_dt kL_law0 24 rfl) (by rw [c]; decide) (by rw [c]; decide) (by rw [c]; rfl) (by decide) ?_
      have k := k.1 c
      exact k
    have k := k.2 c
    have c9 := am_ne (n := 9) (by decide) c
    clear c
    by_cases c : ((xs (Int32.toNatClampNeg x4)) &&& 31) = 10
    · refine Ev.tableIn (off := 540) (tgt := 580) (am_dt kL_law0 24 rfl) (by rw [c]; decide) (by rw [c]; decide) (by rw [c]; rfl) (by decide) ?_
      have k := k.1 c
      exact k
    have k := k.2 c
    have c10 := am_ne (n := 10) (by decide) c
    clear c
    by_cases c : ((xs (Int32.toNatClampNeg x4)) &&& 31) = 11
    · refine Ev.tableIn (off := 608) (tgt := 648) (am_dt kL_law0 24 rfl) (by rw [c]; decide) (by rw [c]; decide) (by rw [c]; rfl) (by decide) ?_
      have k := k.1 c
      exact k
    have k := k.2 c
    have c11 := am_ne (n := 11) (by decide) c
    clear c
    by_cases c : ((xs (Int32.toNatClampNeg x4)) &&& 31) = 12
    · refine Ev.tableIn (off := 633) (tgt := 673) (am_dt kL_law0 24 rfl) (by rw [c]; decide) (by rw [c]; decide) (by rw [c]; rfl) (by decide) ?_
      have k := k.1 c
      exact k
    have k := k.2 c
    have c12 := am_ne (n := 12) (by decide) c
    clear c
    by_cases c : ((xs (Int32.toNatClampNeg x4)) &&& 31) = 13
    · refine Ev.tableIn (off := 658) (tgt := 698) (am_dt kL_law0 24 rfl) (by rw [c]; decide) (by rw [c]; decide) (by rw [c]; rfl) (by decide) ?_
      have k := k.1 c
      exact k
    have k := k.2 c
    have c13 := am_ne (n := 13) (by decide) c
    clear c
    by_cases c : ((xs (Int32.toNatClampNeg x4)) &&& 31) = 14
    · refine Ev.tableIn (off := 683) (tgt := 723) (am_dt kL_law0 24 rfl) (by rw [c]; decide) (by rw [c]; decide) (by rw [c]; rfl) (by decide) ?_
      have k := k.1 c
      exact k
    have k := k.2 c
    have c14 := am_ne (n := 14) (by decide) c
    clear c
    by_cases c : ((xs (Int32.toNatClampNeg x4)) &&& 31) = 15
    · refine Ev.tableIn (off := 696) (tgt := 736) (am_dt kL_law0 24 rfl) (by rw [c]; decide) (by rw [c]; decide) (by rw [c]; rfl) (by decide) ?_
      have k := k.1 c
      exact k
    have k := k.2 c
    have c15 := am_ne (n := 15) (by decide) c
    clear c
    by_cases c : ((xs (Int32.toNatClampNeg x4)) &&& 31) = 16
    · refine Ev.tableIn (off := 721) (tgt := 761) (am_dt kL_law0 24 rfl) (by rw [c]; decide) (by rw [c]; decide) (by rw [c]; rfl) (by decide) ?_
      have k := k.1 c
      exact k
    have k := k.2 c
    have c16 := am_ne (n := 16) (by decide) c
    clear c
    by_cases c : ((xs (Int32.toNatClampNeg x4)) &&& 31) = 17
    · refine Ev.tableIn (off := 746) (tgt := 786) (am_dt kL_law0 24 rfl) (by rw [c]; decide) (by rw [c]; decide) (by rw [c]; rfl) (by decide) ?_
      have k := k.1 c
      exact k
    have k := k.2 c
    have c17 := am_ne (n := 17) (by decide) c
    clear c
    by_cases c : ((xs (Int32.toNatClampNeg x4)) &&& 31) = 18
    · refine Ev.tableIn (off := 759) (tgt := 799) (am_dt kL_law0 24 rfl) (by rw [c]; decide) (by rw [c]; decide) (by rw [c]; rfl) (by decide) ?_
      have k := k.1 c
      exact k
    have k := k.2 c
    have c18 := am_ne (n := 18) (by decide) c
    clear c
    by_cases c : ((xs (Int32.toNatClampNeg x4)) &&& 31) = 19
    · refine Ev.tableIn (off := 784) (tgt := 824) (am_dt kL_law0 24 rfl) (by rw [c]; decide) (by rw [c]; decide) (by rw [c]; rfl) (by decide) ?_
      have k := k.1 c
      exact k
    have k := k.2 c
    have c19 := am_ne (n := 19) (by decide) c
    clear c
    by_cases c : ((xs (Int32.toNatClampNeg x4)) &&& 31) = 20
    · refine Ev.tableIn (off := 822) (tgt := 862) (am_dt kL_law0 24 rfl) (by rw [c]; decide) (by rw [c]; decide) (by rw [c]; rfl) (by decide) ?_
      have k := k.1 c
      exact k
    have k := k.2 c
    have c20 := am_ne (n := 20) (by decide) c
    clear c
    by_cases c : ((xs (Int32.toNatClampNeg x4)) &&& 31) = 21
    · refine Ev.tableIn (off := 860) (tgt := 900) (am_dt kL_law0 24 rfl) (by rw [c]; decide) (by rw [c]; decide) (by rw [c]; rfl) (by decide) ?_
      have k := k.1 c
      exact k
    have k := k.2 c
    have c21 := am_ne (n := 21) (by decide) c
    clear c
    by_cases c : ((xs (Int32.toNatClampNeg x4)) &&& 31) = 22
    · refine Ev.tableIn (off := 886) (tgt := 926) (am_dt kL_law0 24 rfl) (by rw [c]; decide) (by rw [c]; decide) (by rw [c]; rfl) (by decide) ?_
      have k := k.1 c
      exact k
    have k := k.2 c
    have c22 := am_ne (n := 22) (by decide) c
    clear c
    by_cases c : ((xs (Int32.toNatClampNeg x4)) &&& 31) = 23
    · refine Ev.tableIn (off := 935) (tgt := 975) (am_dt kL_law0 24 rfl) (by rw [c]; decide) (by rw [c]; decide) (by rw [c]; rfl) (by decide) ?_
      have k := k.1 c
      exact k
    have k := k.2 c
    have c23 := am_ne (n := 23) (by decide) c
    clear c
    by_cases c : ((xs (Int32.toNatClampNeg x4)) &&& 31) = 24
    · refine Ev.tableIn (off := 948) (tgt := 988) (am_dt kL_law0 24 rfl) (by rw [c]; decide) (by rw [c]; decide) (by rw [c]; rfl) (by decide) ?_
      have k := k.1 c
      exact k
    have k := k.2 c
    have c24 := am_ne (n := 24) (by decide) c
    clear c
    by_cases c : ((xs (Int32.toNatClampNeg x4)) &&& 31) = 25
    · refine Ev.tableIn (off := 1001) (tgt := 1041) (am_dt kL_law0 24 rfl) (by rw [c]; decide) (by rw [c]; decide) (by rw [c]; rfl) (by decide) ?_
      have k := k.1 c
      exact k
    have k := k.2 c
    have c25 := am_ne (n := 25) (by decide) c
    clear c
    refine Ev.tableOut (tgt := 1066) (am_dt kL_law0 24 rfl) (by omega) (by decide) ?_
    exact k
set_option maxRecDepth 20000 in
set_option maxHeartbeats 2000000 in
theorem bL_law_160 {w : am_W} {d : Nat} {h : am_H} {Q : Option Value → am_H → Prop} {a0 : Nat} {a1 : Nat} {a2 : Nat} {a3 : Nat} {x4 : Int32}  {L : Nat} {xs : Nat → Int32} (hs : ScW w a0 L xs) (k : (vp_in (x4 + 1) L) ∧ ((vp_in (x4 + 2) L) ∧ ((vp_in (x4 + 3) L) ∧ ((vp_in (x4 + 4) L) ∧ ((vp_in (x4 + 5) L) ∧ ((vp_in (x4 + 6) L) ∧ ((hK h a1 = 9) ∧ (EvM w mX9_feed d [.ref a1, .long (((Int32.toInt64 (xs (Int32.toNatClampNeg (x4 + 1)))) <<< (Int32.toInt64 32 &&& 63)) ||| ((Int32.toInt64 (xs (Int32.toNatClampNeg (x4 + 2)))) &&& 4294967295)), .long (((Int32.toInt64 (xs (Int32.toNatClampNeg (x4 + 3)))) <<< (Int32.toInt64 32 &&& 63)) ||| ((Int32.toInt64 (xs (Int32.toNatClampNeg (x4 + 4)))) &&& 4294967295)), .long (((Int32.toInt64 (xs (Int32.toNatClampNeg (x4 + 5)))) <<< (Int32.toInt64 32 &&& 63)) ||| ((Int32.toInt64 (xs (Int32.toNatClampNeg (x4 + 6)))) &&& 4294967295))] h (fun r9 h8 => ∃ v10 : Int32, r9 = some (.int v10) ∧ ((vp_in (x4 + 1) L) ∧ ((vp_in (x4 + 2) L) ∧ ((vp_in (x4 + 3) L) ∧ ((vp_in (x4 + 4) L) ∧ ((vp_in (x4 + 5) L) ∧ ((vp_in (x4 + 6) L) ∧ ((hK h8 a2 = 10) ∧ (EvM w mX10_feed d [.ref a2, .long (((Int32.toInt64 (xs (Int32.toNatClampNeg (x4 + 1)))) <<< (Int32.toInt64 32 &&& 63)) ||| ((Int32.toInt64 (xs (Int32.toNatClampNeg (x4 + 2)))) &&& 4294967295)), .long (((Int32.toInt64 (xs (Int32.toNatClampNeg (x4 + 3)))) <<< (Int32.toInt64 32 &&& 63)) ||| ((Int32.toInt64 (xs (Int32.toNatClampNeg (x4 + 4)))) &&& 4294967295)), .long (((Int32.toInt64 (xs (Int32.toNatClampNeg (x4 + 5)))) <<< (Int32.toInt64 32 &&& 63)) ||| ((Int32.toInt64 (xs (Int32.toNatClampNeg (x4 + 6)))) &&& 4294967295))] h8 (fun r19 h18 => ∃ v20 : Int32, r19 = some (.int v20) ∧ ((v10 = v20 → (Ev w (zL w a0) mL_law (d + 1) 1066 [(0, .ref a0), (1, .ref a1), (2, .ref a2), (3, .ref a3), (4, .int x4)] [] h18 Q)) ∧ (¬ v10 = v20 → (False))))))))))))))))))))) : Ev w (zL w a0) mL_law (d + 1) 160 [(0, .ref a0), (1, .ref a1), (2, .ref a2), (3, .ref a3), (4, .int x4)] [] h Q := by
  refine Ev.aload_n 1 (am_dt kL_law0 25 rfl) rfl rfl ?_
  refine Ev.aload_n 0 (am_dt kL_law0 26 rfl) rfl rfl ?_
  refine Ev.iload 4 (am_dt kL_law0 27 rfl) rfl ?_
  refine Ev.iconst (v := 1) (am_dt kL_law0 28 rfl) (by decide) ?_
  refine Ev.iadd (am_dt kL_law0 29 rfl) ?_
  obtain ⟨f1, k⟩ := k
  refine Ev.scl hs (am_dt kL_law0 30 rfl) f1 ?_
  refine Ev.i2l (am_dt kL_law0 31 rfl) ?_
  refine Ev.bipush (v := 32) (am_dt kL_law0 32 rfl) (by decide) ?_
  refine Ev.lshl (am_dt kL_law0 33 rfl) ?_
  refine Ev.aload_n 0 (am_dt kL_law0 34 rfl) rfl rfl ?_
  refine Ev.iload 4 (am_dt kL_law0 35 rfl) rfl ?_
  refine Ev.iconst (v := 2) (am_dt kL_law0 36 rfl) (by decide) ?_
  refine Ev.iadd (am_dt kL_law0 37 rfl) ?_
  obtain ⟨f2, k⟩ := k
  refine Ev.scl hs (am_dt kL_law0 38 rfl) f2 ?_
  refine Ev.i2l (am_dt kL_law0 39 rfl) ?_
  refine Ev.ldc2 (v := 4294967295) (am_dt kL_law1 0 rfl) wf_8 ?_
  refine Ev.land (am_dt kL_law1 1 rfl) ?_
  refine Ev.lor (am_dt kL_law1 2 rfl) ?_
  refine Ev.aload_n 0 (am_dt kL_law1 3 rfl) rfl rfl ?_
  refine Ev.iload 4 (am_dt kL_law1 4 rfl) rfl ?_
  refine Ev.iconst (v := 3) (am_dt kL_law1 5 rfl) (by decide) ?_
  refine Ev.iadd (am_dt kL_law1 6 rfl) ?_
  obtain ⟨f3, k⟩ := k
  refine Ev.scl hs (am_dt kL_law1 7 rfl) f3 ?_
  refine Ev.i2l (am_dt kL_law1 8 rfl) ?_
  refine Ev.bipush (v := 32) (am_dt kL_law1 9 rfl) (by decide) ?_
  refine Ev.lshl (am_dt kL_law1 10 rfl) ?_
  refine Ev.aload_n 0 (am_dt kL_law1 11 rfl) rfl rfl ?_
  refine Ev.iload 4 (am_dt kL_law1 12 rfl) rfl ?_
  refine Ev.iconst (v := 4) (am_dt kL_law1 13 rfl) (by decide) ?_
  refine Ev.iadd (am_dt kL_law1 14 rfl) ?_
  obtain ⟨f4, k⟩ := k
  refine Ev.scl hs (am_dt kL_law1 15 rfl) f4 ?_
  refine Ev.i2l (am_dt kL_law1 16 rfl) ?_
  refine Ev.ldc2 (v := 4294967295) (am_dt kL_law1 17 rfl) wf_8 ?_
  refine Ev.land (am_dt kL_law1 18 rfl) ?_
  refine Ev.lor (am_dt kL_law1 19 rfl) ?_
  refine Ev.aload_n 0 (am_dt kL_law1 20 rfl) rfl rfl ?_
  refine Ev.iload 4 (am_dt kL_law1 21 rfl) rfl ?_
  refine Ev.iconst (v := 5) (am_dt kL_law1 22 rfl) (by decide) ?_
  refine Ev.iadd (am_dt kL_law1 23 rfl) ?_
  obtain ⟨f5, k⟩ := k
  refine Ev.scl hs (am_dt kL_law1 24 rfl) f5 ?_
  refine Ev.i2l (am_dt kL_law1 25 rfl) ?_
  refine Ev.bipush (v := 32) (am_dt kL_law1 26 rfl) (by decide) ?_
  refine Ev.lshl (am_dt kL_law1 27 rfl) ?_
  refine Ev.aload_n 0 (am_dt kL_law1 28 rfl) rfl rfl ?_
  refine Ev.iload 4 (am_dt kL_law1 29 rfl) rfl ?_
  refine Ev.bipush (v := 6) (am_dt kL_law1 30 rfl) (by decide) ?_
  refine Ev.iadd (am_dt kL_law1 31 rfl) ?_
  obtain ⟨f6, k⟩ := k
  refine Ev.scl hs (am_dt kL_law1 32 rfl) f6 ?_
  refine Ev.i2l (am_dt kL_law1 33 rfl) ?_
  refine Ev.ldc2 (v := 4294967295) (am_dt kL_law1 34 rfl) wf_8 ?_
  refine Ev.land (am_dt kL_law1 35 rfl) ?_
  refine Ev.lor (am_dt kL_law1 36 rfl) ?_
  obtain ⟨f7, k⟩ := k
  refine Ev.callV (ci := 9) (v := mX9_feed) (As := [.long (((Int32.toInt64 (xs (Int32.toNatClampNeg (x4 + 1)))) <<< (Int32.toInt64 32 &&& 63)) ||| ((Int32.toInt64 (xs (Int32.toNatClampNeg (x4 + 2)))) &&& 4294967295)), .long (((Int32.toInt64 (xs (Int32.toNatClampNeg (x4 + 3)))) <<< (Int32.toInt64 32 &&& 63)) ||| ((Int32.toInt64 (xs (Int32.toNatClampNeg (x4 + 4)))) &&& 4294967295)), .long (((Int32.toInt64 (xs (Int32.toNatClampNeg (x4 + 5)))) <<< (Int32.toInt64 32 &&& 63)) ||| ((Int32.toInt64 (xs (Int32.toNatClampNeg (x4 + 6)))) &&& 4294967295))]) (st := []) okX9_feed wf_9 wf_10 wf_11 (am_dt kL_law1 37 rfl) (by decide) rfl rfl (Nat.le_of_ble_eq_true rfl) (Nat.le_of_ble_eq_true rfl) f7 ?_
  refine EvM.mono k (fun r9 h8 k => ?_)
  obtain ⟨v10, rfl, k⟩ := k
  show Ev w _ _ _ 231 _ [.int v10] _ _
  refine Ev.aload_n 2 (am_dt kL_law1 38 rfl) rfl rfl ?_
  refine Ev.aload_n 0 (am_dt kL_law1 39 rfl) rfl rfl ?_
  refine Ev.iload 4 (am_dt kL_law2 0 rfl) rfl ?_
  refine Ev.iconst (v := 1) (am_dt kL_law2 1 rfl) (by decide) ?_
  refine Ev.iadd (am_dt kL_law2 2 rfl) ?_
  obtain ⟨f11, k⟩ := k
  refine Ev.scl hs (am_dt kL_law2 3 rfl) f11 ?_
  refine Ev.i2l (am_dt kL_law2 4 rfl) ?_
  refine Ev.bipush (v := 32) (am_dt kL_law2 5 rfl) (by decide) ?_
  refine Ev.lshl (am_dt kL_law2 6 rfl) ?_
  refine Ev.aload_n 0 (am_dt kL_law2 7 rfl) rfl rfl ?_
  refine Ev.iload 4 (am_dt kL_law2 8 rfl) rfl ?_
  refine Ev.iconst (v := 2) (am_dt kL_law2 9 rfl) (by decide) ?_
  refine Ev.iadd (am_dt kL_law2 10 rfl) ?_
  obtain ⟨f12, k⟩ := k
  refine Ev.scl hs (am_dt kL_law2 11 rfl) f12 ?_
  refine Ev.i2l (am_dt kL_law2 12 rfl) ?_
  refine Ev.ldc2 (v := 4294967295) (am_dt kL_law2 13 rfl) wf_8 ?_
  refine Ev.land (am_dt kL_law2 14 rfl) ?_
  refine Ev.lor (am_dt kL_law2 15 rfl) ?_
  refine Ev.aload_n 0 (am_dt kL_law2 16 rfl) rfl rfl ?_
  refine Ev.iload 4 (am_dt kL_law2 17 rfl) rfl ?_
  refine Ev.iconst (v := 3) (am_dt kL_law2 18 rfl) (by decide) ?_
  refine Ev.iadd (am_dt kL_law2 19 rfl) ?_
  obtain ⟨f13, k⟩ := k
  refine Ev.scl hs (am_dt kL_law2 20 rfl) f13 ?_
  refine Ev.i2l (am_dt kL_law2 21 rfl) ?_
  refine Ev.bipush (v := 32) (am_dt kL_law2 22 rfl) (by decide) ?_
  refine Ev.lshl (am_dt kL_law2 23 rfl) ?_
  refine Ev.aload_n 0 (am_dt kL_law2 24 rfl) rfl rfl ?_
  refine Ev.iload 4 (am_dt kL_law2 25 rfl) rfl ?_
  refine Ev.iconst (v := 4) (am_dt kL_law2 26 rfl) (by decide) ?_
  refine Ev.iadd (am_dt kL_law2 27 rfl) ?_
  obtain ⟨f14, k⟩ := k
  refine Ev.scl hs (am_dt kL_law2 28 rfl) f14 ?_
  refine Ev.i2l (am_dt kL_law2 29 rfl) ?_
  refine Ev.ldc2 (v := 4294967295) (am_dt kL_law2 30 rfl) wf_8 ?_
  refine Ev.land (am_dt kL_law2 31 rfl) ?_
  refine Ev.lor (am_dt kL_law2 32 rfl) ?_
  refine Ev.aload_n 0 (am_dt kL_law2 33 rfl) rfl rfl ?_
  refine Ev.iload 4 (am_dt kL_law2 34 rfl) rfl ?_
  refine Ev.iconst (v := 5) (am_dt kL_law2 35 rfl) (by decide) ?_
  refine Ev.iadd (am_dt kL_law2 36 rfl) ?_
  obtain ⟨f15, k⟩ := k
  refine Ev.scl hs (am_dt kL_law2 37 rfl) f15 ?_
  refine Ev.i2l (am_dt kL_law2 38 rfl) ?_
  refine Ev.bipush (v := 32) (am_dt kL_law2 39 rfl) (by decide) ?_
  refine Ev.lshl (am_dt kL_law3 0 rfl) ?_
  refine Ev.aload_n 0 (am_dt kL_law3 1 rfl) rfl rfl ?_
  refine Ev.iload 4 (am_dt kL_law3 2 rfl) rfl ?_
  refine Ev.bipush (v := 6) (am_dt kL_law3 3 rfl) (by decide) ?_
  refine Ev.iadd (am_dt kL_law3 4 rfl) ?_
  obtain ⟨f16, k⟩ := k
  refine Ev.scl hs (am_dt kL_law3 5 rfl) f16 ?_
  refine Ev.i2l (am_dt kL_law3 6 rfl) ?_
  refine Ev.ldc2 (v := 4294967295) (am_dt kL_law3 7 rfl) wf_8 ?_
  refine Ev.land (am_dt kL_law3 8 rfl) ?_
  refine Ev.lor (am_dt kL_law3 9 rfl) ?_
  obtain ⟨f17, k⟩ := k
  refine Ev.callV (ci := 10) (v := mX10_feed) (As := [.long (((Int32.toInt64 (xs (Int32.toNatClampNeg (x4 + 1)))) <<< (Int32.toInt64 32 &&& 63)) ||| ((Int32.toInt64 (xs (Int32.toNatClampNeg (x4 + 2)))) &&& 4294967295)), .long (((Int32.toInt64 (xs (Int32.toNatClampNeg (x4 + 3)))) <<< (Int32.toInt64 32 &&& 63)) ||| ((Int32.toInt64 (xs (Int32.toNatClampNeg (x4 + 4)))) &&& 4294967295)), .long (((Int32.toInt64 (xs (Int32.toNatClampNeg (x4 + 5)))) <<< (Int32.toInt64 32 &&& 63)) ||| ((Int32.toInt64 (xs (Int32.toNatClampNeg (x4 + 6)))) &&& 4294967295))]) (st := [.int v10]) okX10_feed wf_12 wf_13 wf_14 (am_dt kL_law3 10 rfl) (by decide) rfl rfl (Nat.le_of_ble_eq_true rfl) (Nat.le_of_ble_eq_true rfl) f17 ?_
  refine EvM.mono k (fun r19 h18 k => ?_)
  obtain ⟨v20, rfl, k⟩ := k
  show Ev w _ _ _ 302 _ [.int v20, .int v10] _ _
  refine Ev.icmp_eq (tgt := 1066) (am_dt kL_law3 11 rfl) (by decide) (fun c => ?_) (fun c => ?_)
  · have k := k.1 c
    exact k
  · have k := k.2 c
    refine Ev.iconst (v := 0) (am_dt kL_law3 12 rfl) (by decide) ?_
    exact k.elim
set_option maxRecDepth 20000 in
set_option maxHeartbeats 2000000 in
theorem bL_law_307 {w : am_W} {d : Nat} {h : am_H} {Q : Option Value → am_H → Prop} {a0 : Nat} {a1 : Nat} {a2 : Nat} {a3 : Nat} {x4 : Int32}  {L : Nat} {xs : Nat → Int32} (hs : ScW w a0 L xs) (k : (hK h a1 = 9) ∧ (EvM w mX9_river d [.ref a1] h (fun r3 h2 => ∃ v4 : Int32, r3 = some (.int v4) ∧ ((hK h2 a2 = 10) ∧ (EvM w mX10_river d [.ref a2] h2 (fun r7 h6 => ∃ v8 : Int32, r7 = some (.int v8) ∧ ((v4 = v8 → (Ev w (zL w a0) mL_law (d + 1) 1066 [(0, .ref a0), (1, .ref a1), (2, .ref a2), (3, .ref a3), (4, .int x4)] [] h6 Q)) ∧ (¬ v4 = v8 → (False))))))))) : Ev w (zL w a0) mL_law (d + 1) 307 [(0, .ref a0), (1, .ref a1), (2, .ref a2), (3, .ref a3), (4, .int x4)] [] h Q := by
  refine Ev.aload_n 1 (am_dt kL_law3 14 rfl) rfl rfl ?_
  obtain ⟨f1, k⟩ := k
  refine Ev.callV (ci := 9) (v := mX9_river) (As := []) (st := []) okX9_river wf_15 wf_16 wf_17 (am_dt kL_law3 15 rfl) (by decide) rfl rfl (Nat.le_of_ble_eq_true rfl) (Nat.le_of_ble_eq_true rfl) f1 ?_
  refine EvM.mono k (fun r3 h2 k => ?_)
  obtain ⟨v4, rfl, k⟩ := k
  show Ev w _ _ _ 311 _ [.int v4] _ _
  refine Ev.aload_n 2 (am_dt kL_law3 16 rfl) rfl rfl ?_
  obtain ⟨f5, k⟩ := k
  refine Ev.callV (ci := 10) (v := mX10_river) (As := []) (st := [.int v4]) okX10_river wf_18 wf_19 wf_20 (am_dt kL_law3 17 rfl) (by decide) rfl rfl (Nat.le_of_ble_eq_true rfl) (Nat.le_of_ble_eq_true rfl) f5 ?_
  refine EvM.mono k (fun r7 h6 k => ?_)
  obtain ⟨v8, rfl, k⟩ := k
  show Ev w _ _ _ 315 _ [.int v8, .int v4] _ _
  refine Ev.icmp_eq (tgt := 1066) (am_dt kL_law3 18 rfl) (by decide) (fun c => ?_) (fun c => ?_)
  · have k := k.1 c
    exact k
  · have k := k.2 c
    refine Ev.iconst (v := 0) (am_dt kL_law3 19 rfl) (by decide) ?_
    exact k.elim
set_option maxRecDepth 20000 in
set_option maxHeartbeats 2000000 in
theorem bL_law_320 {w : am_W} {d : Nat} {h : am_H} {Q : Option Value → am_H → Prop} {a0 : Nat} {a1 : Nat} {a2 : Nat} {a3 : Nat} {x4 : Int32}  {L : Nat} {xs : Nat → Int32} (hs : ScW w a0 L xs) (k : (vp_in (x4 + 1) L) ∧ ((vp_in (x4 + 2) L) ∧ ((hK h a1 = 9) ∧ (EvM w mX9_person d [.ref a1, .int (xs (Int32.toNatClampNeg (x4 + 1))), .int (xs (Int32.toNatClampNeg (x4 + 2)))] h (fun r5 h4 => ∃ v6 : Int32, r5 = some (.int v6) ∧ ((vp_in (x4 + 1) L) ∧ ((vp_in (x4 + 2) L) ∧ ((hK h4 a2 = 10) ∧ (EvM w mX10_person d [.ref a2, .int (xs (Int32.toNatClampNeg (x4 + 1))), .int (xs (Int32.toNatClampNeg (x4 + 2)))] h4 (fun r11 h10 => ∃ v12 : Int32, r11 = some (.int v12) ∧ ((v6 = v12 → (Ev w (zL w a0) mL_law (d + 1) 1066 [(0, .ref a0), (1, .ref a1), (2, .ref a2), (3, .ref a3), (4, .int x4)] [] h10 Q)) ∧ (¬ v6 = v12 → (False))))))))))))) : Ev w (zL w a0) mL_law (d + 1) 320 [(0, .ref a0), (1, .ref a1), (2, .ref a2), (3, .ref a3), (4, .int x4)] [] h Q := by
  refine Ev.aload_n 1 (am_dt kL_law3 21 rfl) rfl rfl ?_
  refine Ev.aload_n 0 (am_dt kL_law3 22 rfl) rfl rfl ?_
  refine Ev.iload 4 (am_dt kL_law3 23 rfl) rfl ?_
  refine Ev.iconst (v := 1) (am_dt kL_law3 24 rfl) (by decide) ?_
  refine Ev.iadd (am_dt kL_law3 25 rfl) ?_
  obtain ⟨f1, k⟩ := k
  refine Ev.scl hs (am_dt kL_law3 26 rfl) f1 ?_
  refine Ev.aload_n 0 (am_dt kL_law3 27 rfl) rfl rfl ?_
  refine Ev.iload 4 (am_dt kL_law3 28 rfl) rfl ?_
  refine Ev.iconst (v := 2) (am_dt kL_law3 29 rfl) (by decide) ?_
  refine Ev.iadd (am_dt kL_law3 30 rfl) ?_
  obtain ⟨f2, k⟩ := k
  refine Ev.scl hs (am_dt kL_law3 31 rfl) f2 ?_
  obtain ⟨f3, k⟩ := k
  refine Ev.callV (ci := 9) (v := mX9_person) (As := [.int (xs (Int32.toNatClampNeg (x4 + 1))), .int (xs (Int32.toNatClampNeg (x4 + 2)))]) (st := []) okX9_person wf_21 wf_22 wf_23 (am_dt kL_law3 32 rfl) (by decide) rfl rfl (Nat.le_of_ble_eq_true rfl) (Nat.le_of_ble_eq_true rfl) f3 ?_
  refine EvM.mono k (fun r5 h4 k => ?_)
  obtain ⟨v6, rfl, k⟩ := k
  show Ev w _ _ _ 336 _ [.int v6] _ _
  refine Ev.aload_n 2 (am_dt kL_law3 33 rfl) rfl rfl ?_
  refine Ev.aload_n 0 (am_dt kL_law3 34 rfl) rfl rfl ?_
  refine Ev.iload 4 (am_dt kL_law3 35 rfl) rfl ?_
  refine Ev.iconst (v := 1) (am_dt kL_law3 36 rfl) (by decide) ?_
  refine Ev.iadd (am_dt kL_law3 37 rfl) ?_
  obtain ⟨f7, k⟩ := k
  refine Ev.scl hs (am_dt kL_law3 38 rfl) f7 ?_
  refine Ev.aload_n 0 (am_dt kL_law3 39 rfl) rfl rfl ?_
  refine Ev.iload 4 (am_dt kL_law4 0 rfl) rfl ?_
  refine Ev.iconst (v := 2) (am_dt kL_law4 1 rfl) (by decide) ?_
  refine Ev.iadd (am_dt kL_law4 2 rfl) ?_
  obtain ⟨f8, k⟩ := k
  refine Ev.scl hs (am_dt kL_law4 3 rfl) f8 ?_
  obtain ⟨f9, k⟩ := k
  refine Ev.callV (ci := 10) (v := mX10_person) (As := [.int (xs (Int32.toNatClampNeg (x4 + 1))), .int (xs (Int32.toNatClampNeg (x4 + 2)))]) (st := [.int v6]) okX10_person wf_24 wf_25 wf_26 (am_dt kL_law4 4 rfl) (by decide) rfl rfl (Nat.le_of_ble_eq_true rfl) (Nat.le_of_ble_eq_true rfl) f9 ?_
  refine EvM.mono k (fun r11 h10 k => ?_)
  obtain ⟨v12, rfl, k⟩ := k
  show Ev w _ _ _ 352 _ [.int v12, .int v6] _ _
  refine Ev.icmp_eq (tgt := 1066) (am_dt kL_law4 5 rfl) (by decide) (fun c => ?_) (fun c => ?_)
  · have k := k.1 c
    exact k
  · have k := k.2 c
    refine Ev.iconst (v := 0) (am_dt kL_law4 6 rfl) (by decide) ?_
    exact k.elim
set_option maxRecDepth 20000 in
set_option maxHeartbeats 2000000 in
theorem bL_law_357 {w : am_W} {d : Nat} {h : am_H} {Q : Option Value → am_H → Prop} {a0 : Nat} {a1 : Nat} {a2 : Nat} {a3 : Nat} {x4 : Int32}  {L : Nat} {xs : Nat → Int32} (hs : ScW w a0 L xs) (k : (vp_in (x4 + 1) L) ∧ ((hK h a1 = 9) ∧ (EvM w mX9_use d [.ref a1, .int (xs (Int32.toNatClampNeg (x4 + 1)))] h (fun r4 h3 => ∃ v5 : Int32, r4 = some (.int v5) ∧ ((vp_in (x4 + 1) L) ∧ ((hK h3 a2 = 10) ∧ (EvM w mX10_use d [.ref a2, .int (xs (Int32.toNatClampNeg (x4 + 1)))] h3 (fun r9 h8 => ∃ v10 : Int32, r9 = some (.int v10) ∧ ((v5 = v10 → (Ev w (zL w a0) mL_law (d + 1) 1066 [(0, .ref a0), (1, .ref a1), (2, .ref a2), (3, .ref a3), (4, .int x4)] [] h8 Q)) ∧ (¬ v5 = v10 → (False))))))))))) : Ev w (zL w a0) mL_law (d + 1) 357 [(0, .ref a0), (1, .ref a1), (2, .ref a2), (3, .ref a3), (4, .int x4)] [] h Q := by
  refine Ev.aload_n 1 (am_dt kL_law4 8 rfl) rfl rfl ?_
  refine Ev.aload_n 0 (am_dt kL_law4 9 rfl) rfl rfl ?_
  refine Ev.iload 4 (am_dt kL_law4 10 rfl) rfl ?_
  refine Ev.iconst (v := 1) (am_dt kL_law4 11 rfl) (by decide) ?_
  refine Ev.iadd (am_dt kL_law4 12 rfl) ?_
  obtain ⟨f1, k⟩ := k
  refine Ev.scl hs (am_dt kL_law4 13 rfl) f1 ?_
  obtain ⟨f2, k⟩ := k
  refine Ev.callV (ci := 9) (v := mX9_use) (As := [.int (xs (Int32.toNatClampNeg (x4 + 1)))]) (st := []) okX9_use wf_27 wf_28 wf_29 (am_dt kL_law4 14 rfl) (by decide) rfl rfl (Nat.le_of_ble_eq_true rfl) (Nat.le_of_ble_eq_true rfl) f2 ?_
  refine EvM.mono k (fun r4 h3 k => ?_)
  obtain ⟨v5, rfl, k⟩ := k
  show Ev w _ _ _ 367 _ [.int v5] _ _
  refine Ev.aload_n 2 (am_dt kL_law4 15 rfl) rfl rfl ?_
  refine Ev.aload_n 0 (am_dt kL_law4 16 rfl) rfl rfl ?_
  refine Ev.iload 4 (am_dt kL_law4 17 rfl) rfl ?_
  refine Ev.iconst (v := 1) (am_dt kL_law4 18 rfl) (by decide) ?_
  refine Ev.iadd (am_dt kL_law4 19 rfl) ?_
  obtain ⟨f6, k⟩ := k
  refine Ev.scl hs (am_dt kL_law4 20 rfl) f6 ?_
  obtain ⟨f7, k⟩ := k
  refine Ev.callV (ci := 10) (v := mX10_use) (As := [.int (xs (Int32.toNatClampNeg (x4 + 1)))]) (st := [.int v5]) okX10_use wf_30 wf_31 wf_32 (am_dt kL_law4 21 rfl) (by decide) rfl rfl (Nat.le_of_ble_eq_true rfl) (Nat.le_of_ble_eq_true rfl) f7 ?_
  refine EvM.mono k (fun r9 h8 k => ?_)
  obtain ⟨v10, rfl, k⟩ := k
  show Ev w _ _ _ 377 _ [.int v10, .int v5] _ _
  refine Ev.icmp_eq (tgt := 1066) (am_dt kL_law4 22 rfl) (by decide) (fun c => ?_) (fun c => ?_)
  · have k := k.1 c
    exact k
  · have k := k.2 c
    refine Ev.iconst (v := 0) (am_dt kL_law4 23 rfl) (by decide) ?_
    exact k.elim
set_option maxRecDepth 20000 in
set_option maxHeartbeats 2000000 in
theorem bL_law_382 {w : am_W} {d : Nat} {h : am_H} {Q : Option Value → am_H → Prop} {a0 : Nat} {a1 : Nat} {a2 : Nat} {a3 : Nat} {x4 : Int32}  {L : Nat} {xs : Nat → Int32} (hs : ScW w a0 L xs) (k : (hK h a1 = 9) ∧ (EvM w mX9_rings d [.ref a1] h (fun r3 h2 => ∃ v4 : Int32, r3 = some (.int v4) ∧ ((hK h2 a2 = 10) ∧ (EvM w mX10_rings d [.ref a2] h2 (fun r7 h6 => ∃ v8 : Int32, r7 = some (.int v8) ∧ ((v4 = v8 → (Ev w (zL w a0) mL_law (d + 1) 1066 [(0, .ref a0), (1, .ref a1), (2, .ref a2), (3, .ref a3), (4, .int x4)] [] h6 Q)) ∧ (¬ v4 = v8 → (False))))))))) : Ev w (zL w a0) mL_law (d + 1) 382 [(0, .ref a0), (1, .ref a1), (2, .ref a2), (3, .ref a3), (4, .int x4)] [] h Q := by
  refine Ev.aload_n 1 (am_dt kL_law4 25 rfl) rfl rfl ?_
  obtain ⟨f1, k⟩ := k
  refine Ev.callV (ci := 9) (v := mX9_rings) (As := []) (st := []) okX9_rings wf_33 wf_34 wf_35 (am_dt kL_law4 26 rfl) (by decide) rfl rfl (Nat.le_of_ble_eq_true rfl) (Nat.le_of_ble_eq_true rfl) f1 ?_
  refine EvM.mono k (fun r3 h2 k => ?_)
  obtain ⟨v4, rfl, k⟩ := k
  show Ev w _ _ _ 386 _ [.int v4] _ _
  refine Ev.aload_n 2 (am_dt kL_law4 27 rfl) rfl rfl ?_
  obtain ⟨f5, k⟩ := k
  refine Ev.callV (ci := 10) (v := mX10_rings) (As := []) (st := [.int v4]) okX10_rings wf_36 wf_37 wf_38 (am_dt kL_law4 28 rfl) (by decide) rfl rfl (Nat.le_of_ble_eq_true rfl) (Nat.le_of_ble_eq_true rfl) f5 ?_
  refine EvM.mono k (fun r7 h6 k => ?_)
  obtain ⟨v8, rfl, k⟩ := k
  show Ev w _ _ _ 390 _ [.int v8, .int v4] _ _
  refine Ev.icmp_eq (tgt := 1066) (am_dt kL_law4 29 rfl) (by decide) (fun c => ?_) (fun c => ?_)
  · have k := k.1 c
    exact k
  · have k := k.2 c
    refine Ev.iconst (v := 0) (am_dt kL_law4 30 rfl) (by decide) ?_
    exact k.elim
set_option maxRecDepth 20000 in
set_option maxHeartbeats 2000000 in
theorem bL_law_395 {w : am_W} {d : Nat} {h : am_H} {Q : Option Value → am_H → Prop} {a0 : Nat} {a1 : Nat} {a2 : Nat} {a3 : Nat} {x4 : Int32}  {L : Nat} {xs : Nat → Int32} (hs : ScW w a0 L xs) (k : (vp_in (x4 + 1) L) ∧ ((vp_in (x4 + 2) L) ∧ ((hK h a1 = 9) ∧ (EvM w mX9_ring d [.ref a1, .int (xs (Int32.toNatClampNeg (x4 + 1))), .int (xs (Int32.toNatClampNeg (x4 + 2)))] h (fun r5 h4 => ∃ v6 : Int32, r5 = some (.int v6) ∧ ((vp_in (x4 + 1) L) ∧ ((vp_in (x4 + 2) L) ∧ ((hK h4 a2 = 10) ∧ (EvM w mX10_ring d [.ref a2, .int (xs (Int32.toNatClampNeg (x4 + 1))), .int (xs (Int32.toNatClampNeg (x4 + 2)))] h4 (fun r11 h10 => ∃ v12 : Int32, r11 = some (.int v12) ∧ ((v6 = v12 → (Ev w (zL w a0) mL_law (d + 1) 1066 [(0, .ref a0), (1, .ref a1), (2, .ref a2), (3, .ref a3), (4, .int x4)] [] h10 Q)) ∧ (¬ v6 = v12 → (False))))))))))))) : Ev w (zL w a0) mL_law (d + 1) 395 [(0, .ref a0), (1, .ref a1), (2, .ref a2), (3, .ref a3), (4, .int x4)] [] h Q := by
  refine Ev.aload_n 1 (am_dt kL_law4 32 rfl) rfl rfl ?_
  refine Ev.aload_n 0 (am_dt kL_law4 33 rfl) rfl rfl ?_
  refine Ev.iload 4 (am_dt kL_law4 34 rfl) rfl ?_
  refine Ev.iconst (v := 1) (am_dt kL_law4 35 rfl) (by decide) ?_
  refine Ev.iadd (am_dt kL_law4 36 rfl) ?_
  obtain ⟨f1, k⟩ := k
  refine Ev.scl hs (am_dt kL_law4 37 rfl) f1 ?_
  refine Ev.aload_n 0 (am_dt kL_law4 38 rfl) rfl rfl ?_
  refine Ev.iload 4 (am_dt kL_law4 39 rfl) rfl ?_
  refine Ev.iconst (v := 2) (am_dt kL_law5 0 rfl) (by decide) ?_
  refine Ev.iadd (am_dt kL_law5 1 rfl) ?_
  obtain ⟨f2, k⟩ := k
  refine Ev.scl hs (am_dt kL_law5 2 rfl) f2 ?_
  obtain ⟨f3, k⟩ := k
  refine Ev.callV (ci := 9) (v := mX9_ring) (As := [.int (xs (Int32.toNatClampNeg (x4 + 1))), .int (xs (Int32.toNatClampNeg (x4 + 2)))]) (st := []) okX9_ring wf_39 wf_40 wf_41 (am_dt kL_law5 3 rfl) (by decide) rfl rfl (Nat.le_of_ble_eq_true rfl) (Nat.le_of_ble_eq_true rfl) f3 ?_
  refine EvM.mono k (fun r5 h4 k => ?_)
  obtain ⟨v6, rfl, k⟩ := k
  show Ev w _ _ _ 411 _ [.int v6] _ _
  refine Ev.aload_n 2 (am_dt kL_law5 4 rfl) rfl rfl ?_
  refine Ev.aload_n 0 (am_dt kL_law5 5 rfl) rfl rfl ?_
  refine Ev.iload 4 (am_dt kL_law5 6 rfl) rfl ?_
  refine Ev.iconst (v := 1) (am_dt kL_law5 7 rfl) (by decide) ?_
  refine Ev.iadd (am_dt kL_law5 8 rfl) ?_
  obtain ⟨f7, k⟩ := k
  refine Ev.scl hs (am_dt kL_law5 9 rfl) f7 ?_
  refine Ev.aload_n 0 (am_dt kL_law5 10 rfl) rfl rfl ?_
  refine Ev.iload 4 (am_dt kL_law5 11 rfl) rfl ?_
  refine Ev.iconst (v := 2) (am_dt kL_law5 12 rfl) (by decide) ?_
  refine Ev.iadd (am_dt kL_law5 13 rfl) ?_
  obtain ⟨f8, k⟩ := k
  refine Ev.scl hs (am_dt kL_law5 14 rfl) f8 ?_
  obtain ⟨f9, k⟩ := k
  refine Ev.callV (ci := 10) (v := mX10_ring) (As := [.int (xs (Int32.toNatClampNeg (x4 + 1))), .int (xs (Int32.toNatClampNeg (x4 + 2)))]) (st := [.int v6]) okX10_ring wf_42 wf_43 wf_44 (am_dt kL_law5 15 rfl) (by decide) rfl rfl (Nat.le_of_ble_eq_true rfl) (Nat.le_of_ble_eq_true rfl) f9 ?_
  refine EvM.mono k (fun r11 h10 k => ?_)
  obtain ⟨v12, rfl, k⟩ := k
  show Ev w _ _ _ 427 _ [.int v12, .int v6] _ _
  refine Ev.icmp_eq (tgt := 1066) (am_dt kL_law5 16 rfl) (by decide) (fun c => ?_) (fun c => ?_)
  · have k := k.1 c
    exact k
  · have k := k.2 c
    refine Ev.iconst (v := 0) (am_dt kL_law5 17 rfl) (by decide) ?_
    exact k.elim
set_option maxRecDepth 20000 in
set_option maxHeartbeats 2000000 in
theorem bL_law_432 {w : am_W} {d : Nat} {h : am_H} {Q : Option Value → am_H → Prop} {a0 : Nat} {a1 : Nat} {a2 : Nat} {a3 : Nat} {x4 : Int32}  {L : Nat} {xs : Nat → Int32} (hs : ScW w a0 L xs) (k : (vp_in (x4 + 1) L) ∧ ((vp_in (x4 + 2) L) ∧ ((hK h a1 = 9) ∧ (EvM w mX9_waits d [.ref a1, .int (xs (Int32.toNatClampNeg (x4 + 1))), .int (xs (Int32.toNatClampNeg (x4 + 2)))] h (fun r5 h4 => ∃ v6 : Int32, r5 = some (.int v6) ∧ ((vp_in (x4 + 1) L) ∧ ((vp_in (x4 + 2) L) ∧ ((hK h4 a2 = 10) ∧ (EvM w mX10_waits d [.ref a2, .int (xs (Int32.toNatClampNeg (x4 + 1))), .int (xs (Int32.toNatClampNeg (x4 + 2)))] h4 (fun r11 h10 => ∃ v12 : Int32, r11 = some (.int v12) ∧ ((v6 = v12 → (Ev w (zL w a0) mL_law (d + 1) 1066 [(0, .ref a0), (1, .ref a1), (2, .ref a2), (3, .ref a3), (4, .int x4)] [] h10 Q)) ∧ (¬ v6 = v12 → (False))))))))))))) : Ev w (zL w a0) mL_law (d + 1) 432 [(0, .ref a0), (1, .ref a1), (2, .ref a2), (3, .ref a3), (4, .int x4)] [] h Q := by
  refine Ev.aload_n 1 (am_dt kL_law5 19 rfl) rfl rfl ?_
  refine Ev.aload_n 0 (am_dt kL_law5 20 rfl) rfl rfl ?_
  refine Ev.iload 4 (am_dt kL_law5 21 rfl) rfl ?_
  refine Ev.iconst (v := 1) (am_dt kL_law5 22 rfl) (by decide) ?_
  refine Ev.iadd (am_dt kL_law5 23 rfl) ?_
  obtain ⟨f1, k⟩ := k
  refine Ev.scl hs (am_dt kL_law5 24 rfl) f1 ?_
  refine Ev.aload_n 0 (am_dt kL_law5 25 rfl) rfl rfl ?_
  refine Ev.iload 4 (am_dt kL_law5 26 rfl) rfl ?_
  refine Ev.iconst (v := 2) (am_dt kL_law5 27 rfl) (by decide) ?_
  refine Ev.iadd (am_dt kL_law5 28 rfl) ?_
  obtain ⟨f2, k⟩ := k
  refine Ev.scl hs (am_dt kL_law5 29 rfl) f2 ?_
  obtain ⟨f3, k⟩ := k
  refine Ev.callV (ci := 9) (v := mX9_waits) (As := [.int (xs (Int32.toNatClampNeg (x4 + 1))), .int (xs (Int32.toNatClampNeg (x4 + 2)))]) (st := []) okX9_waits wf_45 wf_46 wf_47 (am_dt kL_law5 30 rfl) (by decide) rfl rfl (Nat.le_of_ble_eq_true rfl) (Nat.le_of_ble_eq_true rfl) f3 ?_
  refine EvM.mono k (fun r5 h4 k => ?_)
  obtain ⟨v6, rfl, k⟩ := k
  show Ev w _ _ _ 448 _ [.int v6] _ _
  refine Ev.aload_n 2 (am_dt kL_law5 31 rfl) rfl rfl ?_
  refine Ev.aload_n 0 (am_dt kL_law5 32 rfl) rfl rfl ?_
  refine Ev.iload 4 (am_dt kL_law5 33 rfl) rfl ?_
  refine Ev.iconst (v := 1) (am_dt kL_law5 34 rfl) (by decide) ?_
  refine Ev.iadd (am_dt kL_law5 35 rfl) ?_
  obtain ⟨f7, k⟩ := k
  refine Ev.scl hs (am_dt kL_law5 36 rfl) f7 ?_
  refine Ev.aload_n 0 (am_dt kL_law5 37 rfl) rfl rfl ?_
  refine Ev.iload 4 (am_dt kL_law5 38 rfl) rfl ?_
  refine Ev.iconst (v := 2) (am_dt kL_law5 39 rfl) (by decide) ?_
  refine Ev.iadd (am_dt kL_law6 0 rfl) ?_
  obtain ⟨f8, k⟩ := k
  refine Ev.scl hs (am_dt kL_law6 1 rfl) f8 ?_
  obtain ⟨f9, k⟩ := k
  refine Ev.callV (ci := 10) (v := mX10_waits) (As := [.int (xs (Int32.toNatClampNeg (x4 + 1))), .int (xs (Int32.toNatClampNeg (x4 + 2)))]) (st := [.int v6]) okX10_waits wf_48 wf_49 wf_50 (am_dt kL_law6 2 rfl) (by decide) rfl rfl (Nat.le_of_ble_eq_true rfl) (Nat.le_of_ble_eq_true rfl) f9 ?_
  refine EvM.mono k (fun r11 h10 k => ?_)
  obtain ⟨v12, rfl, k⟩ := k
  show Ev w _ _ _ 464 _ [.int v12, .int v6] _ _
  refine Ev.icmp_eq (tgt := 1066) (am_dt kL_law6 3 rfl) (by decide) (fun c => ?_) (fun c => ?_)
  · have k := k.1 c
    exact k
  · have k := k.2 c
    refine Ev.iconst (v := 0) (am_dt kL_law6 4 rfl) (by decide) ?_
    exact k.elim
set_option maxRecDepth 20000 in
set_option maxHeartbeats 2000000 in
theorem bL_law_469 {w : am_W} {d : Nat} {h : am_H} {Q : Option Value → am_H → Prop} {a0 : Nat} {a1 : Nat} {a2 : Nat} {a3 : Nat} {x4 : Int32}  {L : Nat} {xs : Nat → Int32} (hs : ScW w a0 L xs) (k : (vp_in (x4 + 1) L) ∧ ((hK h a1 = 9) ∧ (EvM w mX9_all d [.ref a1, .int (xs (Int32.toNatClampNeg (x4 + 1)))] h (fun r4 h3 => ∃ v5 : Int32, r4 = some (.int v5) ∧ ((vp_in (x4 + 1) L) ∧ ((hK h3 a2 = 10) ∧ (EvM w mX10_all d [.ref a2, .int (xs (Int32.toNatClampNeg (x4 + 1)))] h3 (fun r9 h8 => ∃ v10 : Int32, r9 = some (.int v10) ∧ ((v5 = v10 → (Ev w (zL w a0) mL_law (d + 1) 1066 [(0, .ref a0), (1, .ref a1), (2, .ref a2), (3, .ref a3), (4, .int x4)] [] h8 Q)) ∧ (¬ v5 = v10 → (False))))))))))) : Ev w (zL w a0) mL_law (d + 1) 469 [(0, .ref a0), (1, .ref a1), (2, .ref a2), (3, .ref a3), (4, .int x4)] [] h Q := by
  refine Ev.aload_n 1 (am_dt kL_law6 6 rfl) rfl rfl ?_
  refine Ev.aload_n 0 (am_dt kL_law6 7 rfl) rfl rfl ?_
  refine Ev.iload 4 (am_dt kL_law6 8 rfl) rfl ?_
  refine Ev.iconst (v := 1) (am_dt kL_law6 9 rfl) (by decide) ?_
  refine Ev.iadd (am_dt kL_law6 10 rfl) ?_
  obtain ⟨f1, k⟩ := k
  refine Ev.scl hs (am_dt kL_law6 11 rfl) f1 ?_
  obtain ⟨f2, k⟩ := k
  refine Ev.callV (ci := 9) (v := mX9_all) (As := [.int (xs (Int32.toNatClampNeg (x4 + 1)))]) (st := []) okX9_all wf_51 wf_52 wf_53 (am_dt kL_law6 12 rfl) (by decide) rfl rfl (Nat.le_of_ble_eq_true rfl) (Nat.le_of_ble_eq_true rfl) f2 ?_
  refine EvM.mono k (fun r4 h3 k => ?_)
  obtain ⟨v5, rfl, k⟩ := k
  show Ev w _ _ _ 479 _ [.int v5] _ _
  refine Ev.aload_n 2 (am_dt kL_law6 13 rfl) rfl rfl ?_
  refine Ev.aload_n 0 (am_dt kL_law6 14 rfl) rfl rfl ?_
  refine Ev.iload 4 (am_dt kL_law6 15 rfl) rfl ?_
  refine Ev.iconst (v := 1) (am_dt kL_law6 16 rfl) (by decide) ?_
  refine Ev.iadd (am_dt kL_law6 17 rfl) ?_
  obtain ⟨f6, k⟩ := k
  refine Ev.scl hs (am_dt kL_law6 18 rfl) f6 ?_
  obtain ⟨f7, k⟩ := k
  refine Ev.callV (ci := 10) (v := mX10_all) (As := [.int (xs (Int32.toNatClampNeg (x4 + 1)))]) (st := [.int v5]) okX10_all wf_54 wf_55 wf_56 (am_dt kL_law6 19 rfl) (by decide) rfl rfl (Nat.le_of_ble_eq_true rfl) (Nat.le_of_ble_eq_true rfl) f7 ?_
  refine EvM.mono k (fun r9 h8 k => ?_)
  obtain ⟨v10, rfl, k⟩ := k
  show Ev w _ _ _ 489 _ [.int v10, .int v5] _ _
  refine Ev.icmp_eq (tgt := 1066) (am_dt kL_law6 20 rfl) (by decide) (fun c => ?_) (fun c => ?_)
  · have k := k.1 c
    exact k
  · have k := k.2 c
    refine Ev.iconst (v := 0) (am_dt kL_law6 21 rfl) (by decide) ?_
    exact k.elim
set_option maxRecDepth 20000 in
set_option maxHeartbeats 2000000 in
theorem bL_law_494 {w : am_W} {d : Nat} {h : am_H} {Q : Option Value → am_H → Prop} {a0 : Nat} {a1 : Nat} {a2 : Nat} {a3 : Nat} {x4 : Int32}  {L : Nat} {xs : Nat → Int32} (hs : ScW w a0 L xs) (k : (vp_in (x4 + 1) L) ∧ ((vp_in (x4 + 2) L) ∧ ((vp_in (x4 + 3) L) ∧ ((hK h a1 = 9) ∧ (EvM w mX9_bank d [.ref a1, .int (xs (Int32.toNatClampNeg (x4 + 1))), .int (xs (Int32.toNatClampNeg (x4 + 2))), .int (xs (Int32.toNatClampNeg (x4 + 3)))] h (fun r6 h5 => ∃ v7 : Int32, r6 = some (.int v7) ∧ ((vp_in (x4 + 1) L) ∧ ((vp_in (x4 + 2) L) ∧ ((vp_in (x4 + 3) L) ∧ ((hK h5 a2 = 10) ∧ (EvM w mX10_bank d [.ref a2, .int (xs (Int32.toNatClampNeg (x4 + 1))), .int (xs (Int32.toNatClampNeg (x4 + 2))), .int (xs (Int32.toNatClampNeg (x4 + 3)))] h5 (fun r13 h12 => ∃ v14 : Int32, r13 = some (.int v14) ∧ ((v7 = v14 → (Ev w (zL w a0) mL_law (d + 1) 1066 [(0, .ref a0), (1, .ref a1), (2, .ref a2), (3, .ref a3), (4, .int x4)] [] h12 Q)) ∧ (¬ v7 = v14 → (False))))))))))))))) : Ev w (zL w a0) mL_law (d + 1) 494 [(0, .ref a0), (1, .ref a1), (2, .ref a2), (3, .ref a3), (4, .int x4)] [] h Q := by
  refine Ev.aload_n 1 (am_dt kL_law6 23 rfl) rfl rfl ?_
  refine Ev.aload_n 0 (am_dt kL_law6 24 rfl) rfl rfl ?_
  refine Ev.iload 4 (am_dt kL_law6 25 rfl) rfl ?_
  refine Ev.iconst (v := 1) (am_dt kL_law6 26 rfl) (by decide) ?_
  refine Ev.iadd (am_dt kL_law6 27 rfl) ?_
  obtain ⟨f1, k⟩ := k
  refine Ev.scl hs (am_dt kL_law6 28 rfl) f1 ?_
  refine Ev.aload_n 0 (am_dt kL_law6 29 rfl) rfl rfl ?_
  refine Ev.iload 4 (am_dt kL_law6 30 rfl) rfl ?_
  refine Ev.iconst (v := 2) (am_dt kL_law6 31 rfl) (by decide) ?_
  refine Ev.iadd (am_dt kL_law6 32 rfl) ?_
  obtain ⟨f2, k⟩ := k
  refine Ev.scl hs (am_dt kL_law6 33 rfl) f2 ?_
  refine Ev.aload_n 0 (am_dt kL_law6 34 rfl) rfl rfl ?_
  refine Ev.iload 4 (am_dt kL_law6 35 rfl) rfl ?_
  refine Ev.iconst (v := 3) (am_dt kL_law6 36 rfl) (by decide) ?_
  refine Ev.iadd (am_dt kL_law6 37 rfl) ?_
  obtain ⟨f3, k⟩ := k
  refine Ev.scl hs (am_dt kL_law6 38 rfl) f3 ?_
  obtain ⟨f4, k⟩ := k
  refine Ev.callV (ci := 9) (v := mX9_bank) (As := [.int (xs (Int32.toNatClampNeg (x4 + 1))), .int (xs (Int32.toNatClampNeg (x4 + 2))), .int (xs (Int32.toNatClampNeg (x4 + 3)))]) (st := []) okX9_bank wf_57 wf_58 wf_59 (am_dt kL_law6 39 rfl) (by decide) rfl rfl (Nat.le_of_ble_eq_true rfl) (Nat.le_of_ble_eq_true rfl) f4 ?_
  refine EvM.mono k (fun r6 h5 k => ?_)
  obtain ⟨v7, rfl, k⟩ := k
  show Ev w _ _ _ 516 _ [.int v7] _ _
  refine Ev.aload_n 2 (am_dt kL_law7 0 rfl) rfl rfl ?_
  refine Ev.aload_n 0 (am_dt kL_law7 1 rfl) rfl rfl ?_
  refine Ev.iload 4 (am_dt kL_law7 2 rfl) rfl ?_
  refine Ev.iconst (v := 1) (am_dt kL_law7 3 rfl) (by decide) ?_
  refine Ev.iadd (am_dt kL_law7 4 rfl) ?_
  obtain ⟨f8, k⟩ := k
  refine Ev.scl hs (am_dt kL_law7 5 rfl) f8 ?_
  refine Ev.aload_n 0 (am_dt kL_law7 6 rfl) rfl rfl ?_
  refine Ev.iload 4 (am_dt kL_law7 7 rfl) rfl ?_
  refine Ev.iconst (v := 2) (am_dt kL_law7 8 rfl) (by decide) ?_
  refine Ev.iadd (am_dt kL_law7 9 rfl) ?_
  obtain ⟨f9, k⟩ := k
  refine Ev.scl hs (am_dt kL_law7 10 rfl) f9 ?_
  refine Ev.aload_n 0 (am_dt kL_law7 11 rfl) rfl rfl ?_
  refine Ev.iload 4 (am_dt kL_law7 12 rfl) rfl ?_
  refine Ev.iconst (v := 3) (am_dt kL_law7 13 rfl) (by decide) ?_
  refine Ev.iadd (am_dt kL_law7 14 rfl) ?_
  obtain ⟨f10, k⟩ := k
  refine Ev.scl hs (am_dt kL_law7 15 rfl) f10 ?_
  obtain ⟨f11, k⟩ := k
  refine Ev.callV (ci := 10) (v := mX10_bank) (As := [.int (xs (Int32.toNatClampNeg (x4 + 1))), .int (xs (Int32.toNatClampNeg (x4 + 2))), .int (xs (Int32.toNatClampNeg (x4 + 3)))]) (st := [.int v7]) okX10_bank wf_60 wf_61 wf_62 (am_dt kL_law7 16 rfl) (by decide) rfl rfl (Nat.le_of_ble_eq_true rfl) (Nat.le_of_ble_eq_true rfl) f11 ?_
  refine EvM.mono k (fun r13 h12 k => ?_)
  obtain ⟨v14, rfl, k⟩ := k
  show Ev w _ _ _ 538 _ [.int v14, .int v7] _ _
  refine Ev.icmp_eq (tgt := 1066) (am_dt kL_law7 17 rfl) (by decide) (fun c => ?_) (fun c => ?_)
  · have k := k.1 c
    exact k
  · have k := k.2 c
    refine Ev.iconst (v := 0) (am_dt kL_law7 18 rfl) (by decide) ?_
    exact k.elim
set_option maxRecDepth 20000 in
set_option maxHeartbeats 2000000 in
theorem bL_law_543 {w : am_W} {d : Nat} {h : am_H} {Q : Option Value → am_H → Prop} {a0 : Nat} {a1 : Nat} {a2 : Nat} {a3 : Nat} {x4 : Int32}  {L : Nat} {xs : Nat → Int32} (hs : ScW w a0 L xs) (k : (vp_in (x4 + 1) L) ∧ ((vp_in (x4 + 2) L) ∧ ((hK h a1 = 9) ∧ (EvM w mX9_send d [.ref a1, .int (xs (Int32.toNatClampNeg (x4 + 1))), .int (xs (Int32.toNatClampNeg (x4 + 2)))] h (fun r5 h4 => ∃ v6 : Int32, r5 = some (.int v6) ∧ ((vp_in (x4 + 1) L) ∧ ((vp_in (x4 + 2) L) ∧ ((hK h4 a2 = 10) ∧ (EvM w mX10_send d [.ref a2, .int (xs (Int32.toNatClampNeg (x4 + 1))), .int (xs (Int32.toNatClampNeg (x4 + 2)))] h4 (fun r11 h10 => ∃ v12 : Int32, r11 = some (.int v12) ∧ ((v6 = v12 → (Ev w (zL w a0) mL_law (d + 1) 1066 [(0, .ref a0), (1, .ref a1), (2, .ref a2), (3, .ref a3), (4, .int x4)] [] h10 Q)) ∧ (¬ v6 = v12 → (False))))))))))))) : Ev w (zL w a0) mL_law (d + 1) 543 [(0, .ref a0), (1, .ref a1), (2, .ref a2), (3, .ref a3), (4, .int x4)] [] h Q := by
  refine Ev.aload_n 1 (am_dt kL_law7 20 rfl) rfl rfl ?_
  refine Ev.aload_n 0 (am_dt kL_law7 21 rfl) rfl rfl ?_
  refine Ev.iload 4 (am_dt kL_law7 22 rfl) rfl ?_
  refine Ev.iconst (v := 1) (am_dt kL_law7 23 rfl) (by decide) ?_
  refine Ev.iadd (am_dt kL_law7 24 rfl) ?_
  obtain ⟨f1, k⟩ := k
  refine Ev.scl hs (am_dt kL_law7 25 rfl) f1 ?_
  refine Ev.aload_n 0 (am_dt kL_law7 26 rfl) rfl rfl ?_
  refine Ev.iload 4 (am_dt kL_law7 27 rfl) rfl ?_
  refine Ev.iconst (v := 2) (am_dt kL_law7 28 rfl) (by decide) ?_
  refine Ev.iadd (am_dt kL_law7 29 rfl) ?_
  obtain ⟨f2, k⟩ := k
  refine Ev.scl hs (am_dt kL_law7 30 rfl) f2 ?_
  obtain ⟨f3, k⟩ := k
  refine Ev.callV (ci := 9) (v := mX9_send) (As := [.int (xs (Int32.toNatClampNeg (x4 + 1))), .int (xs (Int32.toNatClampNeg (x4 + 2)))]) (st := []) okX9_send wf_63 wf_64 wf_65 (am_dt kL_law7 31 rfl) (by decide) rfl rfl (Nat.le_of_ble_eq_true rfl) (Nat.le_of_ble_eq_true rfl) f3 ?_
  refine EvM.mono k (fun r5 h4 k => ?_)
  obtain ⟨v6, rfl, k⟩ := k
  show Ev w _ _ _ 559 _ [.int v6] _ _
  refine Ev.aload_n 2 (am_dt kL_law7 32 rfl) rfl rfl ?_
  refine Ev.aload_n 0 (am_dt kL_law7 33 rfl) rfl rfl ?_
  refine Ev.iload 4 (am_dt kL_law7 34 rfl) rfl ?_
  refine Ev.iconst (v := 1) (am_dt kL_law7 35 rfl) (by decide) ?_
  refine Ev.iadd (am_dt kL_law7 36 rfl) ?_
  obtain ⟨f7, k⟩ := k
  refine Ev.scl hs (am_dt kL_law7 37 rfl) f7 ?_
  refine Ev.aload_n 0 (am_dt kL_law7 38 rfl) rfl rfl ?_
  refine Ev.iload 4 (am_dt kL_law7 39 rfl) rfl ?_
  refine Ev.iconst (v := 2) (am_dt kL_law8 0 rfl) (by decide) ?_
  refine Ev.iadd (am_dt kL_law8 1 rfl) ?_
  obtain ⟨f8, k⟩ := k
  refine Ev.scl hs (am_dt kL_law8 2 rfl) f8 ?_
  obtain ⟨f9, k⟩ := k
  refine Ev.callV (ci := 10) (v := mX10_send) (As := [.int (xs (Int32.toNatClampNeg (x4 + 1))), .int (xs (Int32.toNatClampNeg (x4 + 2)))]) (st := [.int v6]) okX10_send wf_66 wf_67 wf_68 (am_dt kL_law8 3 rfl) (by decide) rfl rfl (Nat.le_of_ble_eq_true rfl) (Nat.le_of_ble_eq_true rfl) f9 ?_
  refine EvM.mono k (fun r11 h10 k => ?_)
  obtain ⟨v12, rfl, k⟩ := k
  show Ev w _ _ _ 575 _ [.int v12, .int v6] _ _
  refine Ev.icmp_eq (tgt := 1066) (am_dt kL_law8 4 rfl) (by decide) (fun c => ?_) (fun c => ?_)
  · have k := k.1 c
    exact k
  · have k := k.2 c
    refine Ev.iconst (v := 0) (am_dt kL_law8 5 rfl) (by decide) ?_
    exact k.elim
set_option maxRecDepth 20000 in
set_option maxHeartbeats 2000000 in
theorem bL_law_580 {w : am_W} {d : Nat} {h : am_H} {Q : Option Value → am_H → Prop} {a0 : Nat} {a1 : Nat} {a2 : Nat} {a3 : Nat} {x4 : Int32}  {L : Nat} {xs : Nat → Int32} (hs : ScW w a0 L xs) (k : (vp_in (x4 + 1) L) ∧ ((vp_in (x4 + 2) L) ∧ (Ev w (zL w a0) mL_law (d + 1) 594 [(0, .ref a0), (1, .ref a1), (2, .ref a2), (3, .ref a3), (4, .int x4)] [.ref a3, .int (xs (Int32.toNatClampNeg (x4 + 2))), .int (xs (Int32.toNatClampNeg (x4 + 1))), .ref a1] h Q))) : Ev w (zL w a0) mL_law (d + 1) 580 [(0, .ref a0), (1, .ref a1), (2, .ref a2), (3, .ref a3), (4, .int x4)] [] h Q := by
  refine Ev.aload_n 1 (am_dt kL_law8 7 rfl) rfl rfl ?_
  refine Ev.aload_n 0 (am_dt kL_law8 8 rfl) rfl rfl ?_
  refine Ev.iload 4 (am_dt kL_law8 9 rfl) rfl ?_
  refine Ev.iconst (v := 1) (am_dt kL_law8 10 rfl) (by decide) ?_
  refine Ev.iadd (am_dt kL_law8 11 rfl) ?_
  obtain ⟨f1, k⟩ := k
  refine Ev.scl hs (am_dt kL_law8 12 rfl) f1 ?_
  refine Ev.aload_n 0 (am_dt kL_law8 13 rfl) rfl rfl ?_
  refine Ev.iload 4 (am_dt kL_law8 14 rfl) rfl ?_
  refine Ev.iconst (v := 2) (am_dt kL_law8 15 rfl) (by decide) ?_
  refine Ev.iadd (am_dt kL_law8 16 rfl) ?_
  obtain ⟨f2, k⟩ := k
  refine Ev.scl hs (am_dt kL_law8 17 rfl) f2 ?_
  refine Ev.aload_n 3 (am_dt kL_law8 18 rfl) rfl rfl ?_
  exact k
set_option maxRecDepth 20000 in
set_option maxHeartbeats 2000000 in
theorem bL_law_648 {w : am_W} {d : Nat} {h : am_H} {Q : Option Value → am_H → Prop} {a0 : Nat} {a1 : Nat} {a2 : Nat} {a3 : Nat} {x4 : Int32}  {L : Nat} {xs : Nat → Int32} (hs : ScW w a0 L xs) (k : (vp_in (x4 + 1) L) ∧ ((hK h a1 = 9) ∧ (EvM w mX9_asks d [.ref a1, .int (xs (Int32.toNatClampNeg (x4 + 1)))] h (fun r4 h3 => ∃ v5 : Int32, r4 = some (.int v5) ∧ ((vp_in (x4 + 1) L) ∧ ((hK h3 a2 = 10) ∧ (EvM w mX10_asks d [.ref a2, .int (xs (Int32.toNatClampNeg (x4 + 1)))] h3 (fun r9 h8 => ∃ v10 : Int32, r9 = some (.int v10) ∧ ((v5 = v10 → (Ev w (zL w a0) mL_law (d + 1) 1066 [(0, .ref a0), (1, .ref a1), (2, .ref a2), (3, .ref a3), (4, .int x4)] [] h8 Q)) ∧ (¬ v5 = v10 → (False))))))))))) : Ev w (zL w a0) mL_law (d + 1) 648 [(0, .ref a0), (1, .ref a1), (2, .ref a2), (3, .ref a3), (4, .int x4)] [] h Q := by
  refine Ev.aload_n 1 (am_dt kL_law9 12 rfl) rfl rfl ?_
  refine Ev.aload_n 0 (am_dt kL_law9 13 rfl) rfl rfl ?_
  refine Ev.iload 4 (am_dt kL_law9 14 rfl) rfl ?_
  refine Ev.iconst (v := 1) (am_dt kL_law9 15 rfl) (by decide) ?_
  refine Ev.iadd (am_dt kL_law9 16 rfl) ?_
  obtain ⟨f1, k⟩ := k
  refine Ev.scl hs (am_dt kL_law9 17 rfl) f1 ?_
  obtain ⟨f2, k⟩ := k
  refine Ev.callV (ci := 9) (v := mX9_asks) (As := [.int (xs (Int32.toNatClampNeg (x4 + 1)))]) (st := []) okX9_asks wf_69 wf_70 wf_71 (am_dt kL_law9 18 rfl) (by decide) rfl rfl (Nat.le_of_ble_eq_true rfl) (Nat.le_of_ble_eq_true rfl) f2 ?_
  refine EvM.mono k (fun r4 h3 k => ?_)
  obtain ⟨v5, rfl, k⟩ := k
  show Ev w _ _ _ 658 _ [.int v5] _ _
  refine Ev.aload_n 2 (am_dt kL_law9 19 rfl) rfl rfl ?_
  refine Ev.aload_n 0 (am_dt kL_law9 20 rfl) rfl rfl ?_
  refine Ev.iload 4 (am_dt kL_law9 21 rfl) rfl ?_
  refine Ev.iconst (v := 1) (am_dt kL_law9 22 rfl) (by decide) ?_
  refine Ev.iadd (am_dt kL_law9 23 rfl) ?_
  obtain ⟨f6, k⟩ := k
  refine Ev.scl hs (am_dt kL_law9 24 rfl) f6 ?_
  obtain ⟨f7, k⟩ := k
  refine Ev.callV (ci := 10) (v := mX10_asks) (As := [.int (xs (Int32.toNatClampNeg (x4 + 1)))]) (st := [.int v5]) okX10_asks wf_72 wf_73 wf_74 (am_dt kL_law9 25 rfl) (by decide) rfl rfl (Nat.le_of_ble_eq_true rfl) (Nat.le_of_ble_eq_true rfl) f7 ?_
  refine EvM.mono k (fun r9 h8 k => ?_)
  obtain ⟨v10, rfl, k⟩ := k
  show Ev w _ _ _ 668 _ [.int v10, .int v5] _ _
  refine Ev.icmp_eq (tgt := 1066) (am_dt kL_law9 26 rfl) (by decide) (fun c => ?_) (fun c => ?_)
  · have k := k.1 c
    exact k
  · have k := k.2 c
    refine Ev.iconst (v := 0) (am_dt kL_law9 27 rfl) (by decide) ?_
    exact k.elim
set_option maxRecDepth 20000 in
set_option maxHeartbeats 2000000 in
theorem bL_law_673 {w : am_W} {d : Nat} {h : am_H} {Q : Option Value → am_H → Prop} {a0 : Nat} {a1 : Nat} {a2 : Nat} {a3 : Nat} {x4 : Int32}  {L : Nat} {xs : Nat → Int32} (hs : ScW w a0 L xs) (k : (vp_in (x4 + 1) L) ∧ ((hK h a1 = 9) ∧ (EvM w mX9_choice d [.ref a1, .int (xs (Int32.toNatClampNeg (x4 + 1)))] h (fun r4 h3 => ∃ v5 : Int32, r4 = some (.int v5) ∧ ((vp_in (x4 + 1) L) ∧ ((hK h3 a2 = 10) ∧ (EvM w mX10_choice d [.ref a2, .int (xs (Int32.toNatClampNeg (x4 + 1)))] h3 (fun r9 h8 => ∃ v10 : Int32, r9 = some (.int v10) ∧ ((v5 = v10 → (Ev w (zL w a0) mL_law (d + 1) 1066 [(0, .ref a0), (1, .ref a1), (2, .ref a2), (3, .ref a3), (4, .int x4)] [] h8 Q)) ∧ (¬ v5 = v10 → (False))))))))))) : Ev w (zL w a0) mL_law (d + 1) 673 [(0, .ref a0), (1, .ref a1), (2, .ref a2), (3, .ref a3), (4, .int x4)] [] h Q := by
  refine Ev.aload_n 1 (am_dt kL_law9 29 rfl) rfl rfl ?_
  refine Ev.aload_n 0 (am_dt kL_law9 30 rfl) rfl rfl ?_
  refine Ev.iload 4 (am_dt kL_law9 31 rfl) rfl ?_
  refine Ev.iconst (v := 1) (am_dt kL_law9 32 rfl) (by decide) ?_
  refine Ev.iadd (am_dt kL_law9 33 rfl) ?_
  obtain ⟨f1, k⟩ := k
  refine Ev.scl hs (am_dt kL_law9 34 rfl) f1 ?_
  obtain ⟨f2, k⟩ := k
  refine Ev.callV (ci := 9) (v := mX9_choice) (As := [.int (xs (Int32.toNatClampNeg (x4 + 1)))]) (st := []) okX9_choice wf_75 wf_76 wf_77 (am_dt kL_law9 35 rfl) (by decide) rfl rfl (Nat.le_of_ble_eq_true rfl) (Nat.le_of_ble_eq_true rfl) f2 ?_
  refine EvM.mono k (fun r4 h3 k => ?_)
  obtain ⟨v5, rfl, k⟩ := k
  show Ev w _ _ _ 683 _ [.int v5] _ _
  refine Ev.aload_n 2 (am_dt kL_law9 36 rfl) rfl rfl ?_
  refine Ev.aload_n 0 (am_dt kL_law9 37 rfl) rfl rfl ?_
  refine Ev.iload 4 (am_dt kL_law9 38 rfl) rfl ?_
  refine Ev.iconst (v := 1) (am_dt kL_law9 39 rfl) (by decide) ?_
  refine Ev.iadd (am_dt kL_law10 0 rfl) ?_
  obtain ⟨f6, k⟩ := k
  refine Ev.scl hs (am_dt kL_law10 1 rfl) f6 ?_
  obtain ⟨f7, k⟩ := k
  refine Ev.callV (ci := 10) (v := mX10_choice) (As := [.int (xs (Int32.toNatClampNeg (x4 + 1)))]) (st := [.int v5]) okX10_choice wf_78 wf_79 wf_80 (am_dt kL_law10 2 rfl) (by decide) rfl rfl (Nat.le_of_ble_eq_true rfl) (Nat.le_of_ble_eq_true rfl) f7 ?_
  refine EvM.mono k (fun r9 h8 k => ?_)
  obtain ⟨v10, rfl, k⟩ := k
  show Ev w _ _ _ 693 _ [.int v10, .int v5] _ _
  refine Ev.icmp_eq (tgt := 1066) (am_dt kL_law10 3 rfl) (by decide) (fun c => ?_) (fun c => ?_)
  · have k := k.1 c
    exact k
  · have k := k.2 c
    refine Ev.iconst (v := 0) (am_dt kL_law10 4 rfl) (by decide) ?_
    exact k.elim
set_option maxRecDepth 20000 in
set_option maxHeartbeats 2000000 in
theorem bL_law_698 {w : am_W} {d : Nat} {h : am_H} {Q : Option Value → am_H → Prop} {a0 : Nat} {a1 : Nat} {a2 : Nat} {a3 : Nat} {x4 : Int32}  {L : Nat} {xs : Nat → Int32} (hs : ScW w a0 L xs) (k : (vp_in (x4 + 1) L) ∧ ((hK h a1 = 9) ∧ (EvM w mX9_chosen d [.ref a1, .int (xs (Int32.toNatClampNeg (x4 + 1)))] h (fun r4 h3 => ∃ v5 : Int32, r4 = some (.int v5) ∧ ((vp_in (x4 + 1) L) ∧ ((hK h3 a2 = 10) ∧ (EvM w mX10_chosen d [.ref a2, .int (xs (Int32.toNatClampNeg (x4 + 1)))] h3 (fun r9 h8 => ∃ v10 : Int32, r9 = some (.int v10) ∧ ((v5 = v10 → (Ev w (zL w a0) mL_law (d + 1) 1066 [(0, .ref a0), (1, .ref a1), (2, .ref a2), (3, .ref a3), (4, .int x4)] [] h8 Q)) ∧ (¬ v5 = v10 → (False))))))))))) : Ev w (zL w a0) mL_law (d + 1) 698 [(0, .ref a0), (1, .ref a1), (2, .ref a2), (3, .ref a3), (4, .int x4)] [] h Q := by
  refine Ev.aload_n 1 (am_dt kL_law10 6 rfl) rfl rfl ?_
  refine Ev.aload_n 0 (am_dt kL_law10 7 rfl) rfl rfl ?_
  refine Ev.iload 4 (am_dt kL_law10 8 rfl) rfl ?_
  refine Ev.iconst (v := 1) (am_dt kL_law10 9 rfl) (by decide) ?_
  refine Ev.iadd (am_dt kL_law10 10 rfl) ?_
  obtain ⟨f1, k⟩ := k
  refine Ev.scl hs (am_dt kL_law10 11 rfl) f1 ?_
  obtain ⟨f2, k⟩ := k
  refine Ev.callV (ci := 9) (v := mX9_chosen) (As := [.int (xs (Int32.toNatClampNeg (x4 + 1)))]) (st := []) okX9_chosen wf_81 wf_82 wf_83 (am_dt kL_law10 12 rfl) (by decide) rfl rfl (Nat.le_of_ble_eq_true rfl) (Nat.le_of_ble_eq_true rfl) f2 ?_
  refine EvM.mono k (fun r4 h3 k => ?_)
  obtain ⟨v5, rfl, k⟩ := k
  show Ev w _ _ _ 708 _ [.int v5] _ _
  refine Ev.aload_n 2 (am_dt kL_law10 13 rfl) rfl rfl ?_
  refine Ev.aload_n 0 (am_dt kL_law10 14 rfl) rfl rfl ?_
  refine Ev.iload 4 (am_dt kL_law10 15 rfl) rfl ?_
  refine Ev.iconst (v := 1) (am_dt kL_law10 16 rfl) (by decide) ?_
  refine Ev.iadd (am_dt kL_law10 17 rfl) ?_
  obtain ⟨f6, k⟩ := k
  refine Ev.scl hs (am_dt kL_law10 18 rfl) f6 ?_
  obtain ⟨f7, k⟩ := k
  refine Ev.callV (ci := 10) (v := mX10_chosen) (As := [.int (xs (Int32.toNatClampNeg (x4 + 1)))]) (st := [.int v5]) okX10_chosen wf_84 wf_85 wf_86 (am_dt kL_law10 19 rfl) (by decide) rfl rfl (Nat.le_of_ble_eq_true rfl) (Nat.le_of_ble_eq_true rfl) f7 ?_
  refine EvM.mono k (fun r9 h8 k => ?_)
  obtain ⟨v10, rfl, k⟩ := k
  show Ev w _ _ _ 718 _ [.int v10, .int v5] _ _
  refine Ev.icmp_eq (tgt := 1066) (am_dt kL_law10 20 rfl) (by decide) (fun c => ?_) (fun c => ?_)
  · have k := k.1 c
    exact k
  · have k := k.2 c
    refine Ev.iconst (v := 0) (am_dt kL_law10 21 rfl) (by decide) ?_
    exact k.elim
set_option maxRecDepth 20000 in
set_option maxHeartbeats 2000000 in
theorem bL_law_723 {w : am_W} {d : Nat} {h : am_H} {Q : Option Value → am_H → Prop} {a0 : Nat} {a1 : Nat} {a2 : Nat} {a3 : Nat} {x4 : Int32}  {L : Nat} {xs : Nat → Int32} (hs : ScW w a0 L xs) (k : (hK h a1 = 9) ∧ (EvM w mX9_rests d [.ref a1] h (fun r3 h2 => ∃ v4 : Int32, r3 = some (.int v4) ∧ ((hK h2 a2 = 10) ∧ (EvM w mX10_rests d [.ref a2] h2 (fun r7 h6 => ∃ v8 : Int32, r7 = some (.int v8) ∧ ((v4 = v8 → (Ev w (zL w a0) mL_law (d + 1) 1066 [(0, .ref a0), (1, .ref a1), (2, .ref a2), (3, .ref a3), (4, .int x4)] [] h6 Q)) ∧ (¬ v4 = v8 → (False))))))))) : Ev w (zL w a0) mL_law (d + 1) 723 [(0, .ref a0), (1, .ref a1), (2, .ref a2), (3, .ref a3), (4, .int x4)] [] h Q := by
  refine Ev.aload_n 1 (am_dt kL_law10 23 rfl) rfl rfl ?_
  obtain ⟨f1, k⟩ := k
  refine Ev.callV (ci := 9) (v := mX9_rests) (As := []) (st := []) okX9_rests wf_87 wf_88 wf_89 (am_dt kL_law10 24 rfl) (by decide) rfl rfl (Nat.le_of_ble_eq_true rfl) (Nat.le_of_ble_eq_true rfl) f1 ?_
  refine EvM.mono k (fun r3 h2 k => ?_)
  obtain ⟨v4, rfl, k⟩ := k
  show Ev w _ _ _ 727 _ [.int v4] _ _
  refine Ev.aload_n 2 (am_dt kL_law10 25 rfl) rfl rfl ?_
  obtain ⟨f5, k⟩ := k
  refine Ev.callV (ci := 10) (v := mX10_rests) (As := []) (st := [.int v4]) okX10_rests wf_90 wf_91 wf_92 (am_dt kL_law10 26 rfl) (by decide) rfl rfl (Nat.le_of_ble_eq_true rfl) (Nat.le_of_ble_eq_true rfl) f5 ?_
  refine EvM.mono k (fun r7 h6 k => ?_)
  obtain ⟨v8, rfl, k⟩ := k
  show Ev w _ _ _ 731 _ [.int v8, .int v4] _ _
  refine Ev.icmp_eq (tgt := 1066) (am_dt kL_law10 27 rfl) (by decide) (fun c => ?_) (fun c => ?_)
  · have k := k.1 c
    exact k
  · have k := k.2 c
    refine Ev.iconst (v := 0) (am_dt kL_law10 28 rfl) (by decide) ?_
    exact k.elim
set_option maxRecDepth 20000 in
set_option maxHeartbeats 2000000 in
theorem bL_law_736 {w : am_W} {d : Nat} {h : am_H} {Q : Option Value → am_H → Prop} {a0 : Nat} {a1 : Nat} {a2 : Nat} {a3 : Nat} {x4 : Int32}  {L : Nat} {xs : Nat → Int32} (hs : ScW w a0 L xs) (k : (vp_in (x4 + 1) L) ∧ ((hK h a1 = 9) ∧ (EvM w mX9_rest d [.ref a1, .int (xs (Int32.toNatClampNeg (x4 + 1)))] h (fun r4 h3 => ∃ v5 : Int32, r4 = some (.int v5) ∧ ((vp_in (x4 + 1) L) ∧ ((hK h3 a2 = 10) ∧ (EvM w mX10_rest d [.ref a2, .int (xs (Int32.toNatClampNeg (x4 + 1)))] h3 (fun r9 h8 => ∃ v10 : Int32, r9 = some (.int v10) ∧ ((v5 = v10 → (Ev w (zL w a0) mL_law (d + 1) 1066 [(0, .ref a0), (1, .ref a1), (2, .ref a2), (3, .ref a3), (4, .int x4)] [] h8 Q)) ∧ (¬ v5 = v10 → (False))))))))))) : Ev w (zL w a0) mL_law (d + 1) 736 [(0, .ref a0), (1, .ref a1), (2, .ref a2), (3, .ref a3), (4, .int x4)] [] h Q := by
  refine Ev.aload_n 1 (am_dt kL_law10 30 rfl) rfl rfl ?_
  refine Ev.aload_n 0 (am_dt kL_law10 31 rfl) rfl rfl ?_
  refine Ev.iload 4 (am_dt kL_law10 32 rfl) rfl ?_
  refine Ev.iconst (v := 1) (am_dt kL_law10 33 rfl) (by decide) ?_
  refine Ev.iadd (am_dt kL_law10 34 rfl) ?_
  obtain ⟨f1, k⟩ := k
  refine Ev.scl hs (am_dt kL_law10 35 rfl) f1 ?_
  obtain ⟨f2, k⟩ := k
  refine Ev.callV (ci := 9) (v := mX9_rest) (As := [.int (xs (Int32.toNatClampNeg (x4 + 1)))]) (st := []) okX9_rest wf_93 wf_94 wf_95 (am_dt kL_law10 36 rfl) (by decide) rfl rfl (Nat.le_of_ble_eq_true rfl) (Nat.le_of_ble_eq_true rfl) f2 ?_
  refine EvM.mono k (fun r4 h3 k => ?_)
  obtain ⟨v5, rfl, k⟩ := k
  show Ev w _ _ _ 746 _ [.int v5] _ _
  refine Ev.aload_n 2 (am_dt kL_law10 37 rfl) rfl rfl ?_
  refine Ev.aload_n 0 (am_dt kL_law10 38 rfl) rfl rfl ?_
  refine Ev.iload 4 (am_dt kL_law10 39 rfl) rfl ?_
  refine Ev.iconst (v := 1) (am_dt kL_law11 0 rfl) (by decide) ?_
  refine Ev.iadd (am_dt kL_law11 1 rfl) ?_
  obtain ⟨f6, k⟩ := k
  refine Ev.scl hs (am_dt kL_law11 2 rfl) f6 ?_
  obtain ⟨f7, k⟩ := k
  refine Ev.callV (ci := 10) (v := mX10_rest) (As := [.int (xs (Int32.toNatClampNeg (x4 + 1)))]) (st := [.int v5]) okX10_rest wf_96 wf_97 wf_98 (am_dt kL_law11 3 rfl) (by decide) rfl rfl (Nat.le_of_ble_eq_true rfl) (Nat.le_of_ble_eq_true rfl) f7 ?_
  refine EvM.mono k (fun r9 h8 k => ?_)
  obtain ⟨v10, rfl, k⟩ := k
  show Ev w _ _ _ 756 _ [.int v10, .int v5] _ _
  refine Ev.icmp_eq (tgt := 1066) (am_dt kL_law11 4 rfl) (by decide) (fun c => ?_) (fun c => ?_)
  · have k := k.1 c
    exact k
  · have k := k.2 c
    refine Ev.iconst (v := 0) (am_dt kL_law11 5 rfl) (by decide) ?_
    exact k.elim
set_option maxRecDepth 20000 in
set_option maxHeartbeats 2000000 in
theorem bL_law_761 {w : am_W} {d : Nat} {h : am_H} {Q : Option Value → am_H → Prop} {a0 : Nat} {a1 : Nat} {a2 : Nat} {a3 : Nat} {x4 : Int32}  {L : Nat} {xs : Nat → Int32} (hs : ScW w a0 L xs) (k : (vp_in (x4 + 1) L) ∧ ((hK h a1 = 9) ∧ (EvM w mX9_tell d [.ref a1, .int (xs (Int32.toNatClampNeg (x4 + 1)))] h (fun r4 h3 => ∃ v5 : Int32, r4 = some (.int v5) ∧ ((vp_in (x4 + 1) L) ∧ ((hK h3 a2 = 10) ∧ (EvM w mX10_tell d [.ref a2, .int (xs (Int32.toNatClampNeg (x4 + 1)))] h3 (fun r9 h8 => ∃ v10 : Int32, r9 = some (.int v10) ∧ ((v5 = v10 → (Ev w (zL w a0) mL_law (d + 1) 1066 [(0, .ref a0), (1, .ref a1), (2, .ref a2), (3, .ref a3), (4, .int x4)] [] h8 Q)) ∧ (¬ v5 = v10 → (False))))))))))) : Ev w (zL w a0) mL_law (d + 1) 761 [(0, .ref a0), (1, .ref a1), (2, .ref a2), (3, .ref a3), (4, .int x4)] [] h Q := by
  refine Ev.aload_n 1 (am_dt kL_law11 7 rfl) rfl rfl ?_
  refine Ev.aload_n 0 (am_dt kL_law11 8 rfl) rfl rfl ?_
  refine Ev.iload 4 (am_dt kL_law11 9 rfl) rfl ?_
  refine Ev.iconst (v := 1) (am_dt kL_law11 10 rfl) (by decide) ?_
  refine Ev.iadd (am_dt kL_law11 11 rfl) ?_
  obtain ⟨f1, k⟩ := k
  refine Ev.scl hs (am_dt kL_law11 12 rfl) f1 ?_
  obtain ⟨f2, k⟩ := k
  refine Ev.callV (ci := 9) (v := mX9_tell) (As := [.int (xs (Int32.toNatClampNeg (x4 + 1)))]) (st := []) okX9_tell wf_99 wf_100 wf_101 (am_dt kL_law11 13 rfl) (by decide) rfl rfl (Nat.le_of_ble_eq_true rfl) (Nat.le_of_ble_eq_true rfl) f2 ?_
  refine EvM.mono k (fun r4 h3 k => ?_)
  obtain ⟨v5, rfl, k⟩ := k
  show Ev w _ _ _ 771 _ [.int v5] _ _
  refine Ev.aload_n 2 (am_dt kL_law11 14 rfl) rfl rfl ?_
  refine Ev.aload_n 0 (am_dt kL_law11 15 rfl) rfl rfl ?_
  refine Ev.iload 4 (am_dt kL_law11 16 rfl) rfl ?_
  refine Ev.iconst (v := 1) (am_dt kL_law11 17 rfl) (by decide) ?_
  refine Ev.iadd (am_dt kL_law11 18 rfl) ?_
  obtain ⟨f6, k⟩ := k
  refine Ev.scl hs (am_dt kL_law11 19 rfl) f6 ?_
  obtain ⟨f7, k⟩ := k
  refine Ev.callV (ci := 10) (v := mX10_tell) (As := [.int (xs (Int32.toNatClampNeg (x4 + 1)))]) (st := [.int v5]) okX10_tell wf_102 wf_103 wf_104 (am_dt kL_law11 20 rfl) (by decide) rfl rfl (Nat.le_of_ble_eq_true rfl) (Nat.le_of_ble_eq_true rfl) f7 ?_
  refine EvM.mono k (fun r9 h8 k => ?_)
  obtain ⟨v10, rfl, k⟩ := k
  show Ev w _ _ _ 781 _ [.int v10, .int v5] _ _
  refine Ev.icmp_eq (tgt := 1066) (am_dt kL_law11 21 rfl) (by decide) (fun c => ?_) (fun c => ?_)
  · have k := k.1 c
    exact k
  · have k := k.2 c
    refine Ev.iconst (v := 0) (am_dt kL_law11 22 rfl) (by decide) ?_
    exact k.elim
set_option maxRecDepth 20000 in
set_option maxHeartbeats 2000000 in
theorem bL_law_786 {w : am_W} {d : Nat} {h : am_H} {Q : Option Value → am_H → Prop} {a0 : Nat} {a1 : Nat} {a2 : Nat} {a3 : Nat} {x4 : Int32}  {L : Nat} {xs : Nat → Int32} (hs : ScW w a0 L xs) (k : (hK h a1 = 9) ∧ (EvM w mX9_clear d [.ref a1] h (fun r3 h2 => ∃ v4 : Int32, r3 = some (.int v4) ∧ ((hK h2 a2 = 10) ∧ (EvM w mX10_clear d [.ref a2] h2 (fun r7 h6 => ∃ v8 : Int32, r7 = some (.int v8) ∧ ((v4 = v8 → (Ev w (zL w a0) mL_law (d + 1) 1066 [(0, .ref a0), (1, .ref a1), (2, .ref a2), (3, .ref a3), (4, .int x4)] [] h6 Q)) ∧ (¬ v4 = v8 → (False))))))))) : Ev w (zL w a0) mL_law (d + 1) 786 [(0, .ref a0), (1, .ref a1), (2, .ref a2), (3, .ref a3), (4, .int x4)] [] h Q := by
  refine Ev.aload_n 1 (am_dt kL_law11 24 rfl) rfl rfl ?_
  obtain ⟨f1, k⟩ := k
  refine Ev.callV (ci := 9) (v := mX9_clear) (As := []) (st := []) okX9_clear wf_105 wf_106 wf_107 (am_dt kL_law11 25 rfl) (by decide) rfl rfl (Nat.le_of_ble_eq_true rfl) (Nat.le_of_ble_eq_true rfl) f1 ?_
  refine EvM.mono k (fun r3 h2 k => ?_)
  obtain ⟨v4, rfl, k⟩ := k
  show Ev w _ _ _ 790 _ [.int v4] _ _
  refine Ev.aload_n 2 (am_dt kL_law11 26 rfl) rfl rfl ?_
  obtain ⟨f5, k⟩ := k
  refine Ev.callV (ci := 10) (v := mX10_clear) (As := []) (st := [.int v4]) okX10_clear wf_108 wf_109 wf_110 (am_dt kL_law11 27 rfl) (by decide) rfl rfl (Nat.le_of_ble_eq_true rfl) (Nat.le_of_ble_eq_true rfl) f5 ?_
  refine EvM.mono k (fun r7 h6 k => ?_)
  obtain ⟨v8, rfl, k⟩ := k
  show Ev w _ _ _ 794 _ [.int v8, .int v4] _ _
  refine Ev.icmp_eq (tgt := 1066) (am_dt kL_law11 28 rfl) (by decide) (fun c => ?_) (fun c => ?_)
  · have k := k.1 c
    exact k
  · have k := k.2 c
    refine Ev.iconst (v := 0) (am_dt kL_law11 29 rfl) (by decide) ?_
    exact k.elim
set_option maxRecDepth 20000 in
set_option maxHeartbeats 2000000 in
theorem bL_law_799 {w : am_W} {d : Nat} {h : am_H} {Q : Option Value → am_H → Prop} {a0 : Nat} {a1 : Nat} {a2 : Nat} {a3 : Nat} {x4 : Int32}  {L : Nat} {xs : Nat → Int32} (hs : ScW w a0 L xs) (k : (vp_in (x4 + 1) L) ∧ ((hK h a1 = 9) ∧ (EvM w mX9_judged d [.ref a1, .int (xs (Int32.toNatClampNeg (x4 + 1)))] h (fun r4 h3 => ∃ v5 : Int32, r4 = some (.int v5) ∧ ((vp_in (x4 + 1) L) ∧ ((hK h3 a2 = 10) ∧ (EvM w mX10_judged d [.ref a2, .int (xs (Int32.toNatClampNeg (x4 + 1)))] h3 (fun r9 h8 => ∃ v10 : Int32, r9 = some (.int v10) ∧ ((v5 = v10 → (Ev w (zL w a0) mL_law (d + 1) 1066 [(0, .ref a0), (1, .ref a1), (2, .ref a2), (3, .ref a3), (4, .int x4)] [] h8 Q)) ∧ (¬ v5 = v10 → (False))))))))))) : Ev w (zL w a0) mL_law (d + 1) 799 [(0, .ref a0), (1, .ref a1), (2, .ref a2), (3, .ref a3), (4, .int x4)] [] h Q := by
  refine Ev.aload_n 1 (am_dt kL_law11 31 rfl) rfl rfl ?_
  refine Ev.aload_n 0 (am_dt kL_law11 32 rfl) rfl rfl ?_
  refine Ev.iload 4 (am_dt kL_law11 33 rfl) rfl ?_
  refine Ev.iconst (v := 1) (am_dt kL_law11 34 rfl) (by decide) ?_
  refine Ev.iadd (am_dt kL_law11 35 rfl) ?_
  obtain ⟨f1, k⟩ := k
  refine Ev.scl hs (am_dt kL_law11 36 rfl) f1 ?_
  obtain ⟨f2, k⟩ := k
  refine Ev.callV (ci := 9) (v := mX9_judged) (As := [.int (xs (Int32.toNatClampNeg (x4 + 1)))]) (st := []) okX9_judged wf_111 wf_112 wf_113 (am_dt kL_law11 37 rfl) (by decide) rfl rfl (Nat.le_of_ble_eq_true rfl) (Nat.le_of_ble_eq_true rfl) f2 ?_
  refine EvM.mono k (fun r4 h3 k => ?_)
  obtain ⟨v5, rfl, k⟩ := k
  show Ev w _ _ _ 809 _ [.int v5] _ _
  refine Ev.aload_n 2 (am_dt kL_law11 38 rfl) rfl rfl ?_
  refine Ev.aload_n 0 (am_dt kL_law11 39 rfl) rfl rfl ?_
  refine Ev.iload 4 (am_dt kL_law12 0 rfl) rfl ?_
  refine Ev.iconst (v := 1) (am_dt kL_law12 1 rfl) (by decide) ?_
  refine Ev.iadd (am_dt kL_law12 2 rfl) ?_
  obtain ⟨f6, k⟩ := k
  refine Ev.scl hs (am_dt kL_law12 3 rfl) f6 ?_
  obtain ⟨f7, k⟩ := k
  refine Ev.callV (ci := 10) (v := mX10_judged) (As := [.int (xs (Int32.toNatClampNeg (x4 + 1)))]) (st := [.int v5]) okX10_judged wf_114 wf_115 wf_116 (am_dt kL_law12 4 rfl) (by decide) rfl rfl (Nat.le_of_ble_eq_true rfl) (Nat.le_of_ble_eq_true rfl) f7 ?_
  refine EvM.mono k (fun r9 h8 k => ?_)
  obtain ⟨v10, rfl, k⟩ := k
  show Ev w _ _ _ 819 _ [.int v10, .int v5] _ _
  refine Ev.icmp_eq (tgt := 1066) (am_dt kL_law12 5 rfl) (by decide) (fun c => ?_) (fun c => ?_)
  · have k := k.1 c
    exact k
  · have k := k.2 c
    refine Ev.iconst (v := 0) (am_dt kL_law12 6 rfl) (by decide) ?_
    exact k.elim
set_option maxRecDepth 20000 in
set_option maxHeartbeats 2000000 in
theorem bL_law_824 {w : am_W} {d : Nat} {h : am_H} {Q : Option Value → am_H → Prop} {a0 : Nat} {a1 : Nat} {a2 : Nat} {a3 : Nat} {x4 : Int32}  {L : Nat} {xs : Nat → Int32} (hs : ScW w a0 L xs) (k : (vp_in (x4 + 1) L) ∧ ((vp_in (x4 + 2) L) ∧ ((hK h a1 = 9) ∧ (EvM w mX9_likely d [.ref a1, .int (xs (Int32.toNatClampNeg (x4 + 1))), .int (xs (Int32.toNatClampNeg (x4 + 2)))] h (fun r5 h4 => ∃ v6 : Int64, r5 = some (.long v6) ∧ ((vp_in (x4 + 1) L) ∧ ((vp_in (x4 + 2) L) ∧ ((hK h4 a2 = 10) ∧ (EvM w mX10_likely d [.ref a2, .int (xs (Int32.toNatClampNeg (x4 + 1))), .int (xs (Int32.toNatClampNeg (x4 + 2)))] h4 (fun r11 h10 => ∃ v12 : Int64, r11 = some (.long v12) ∧ ((v6 = v12 → (Ev w (zL w a0) mL_law (d + 1) 1066 [(0, .ref a0), (1, .ref a1), (2, .ref a2), (3, .ref a3), (4, .int x4)] [] h10 Q)) ∧ (¬ v6 = v12 → (False))))))))))))) : Ev w (zL w a0) mL_law (d + 1) 824 [(0, .ref a0), (1, .ref a1), (2, .ref a2), (3, .ref a3), (4, .int x4)] [] h Q := by
  refine Ev.aload_n 1 (am_dt kL_law12 8 rfl) rfl rfl ?_
  refine Ev.aload_n 0 (am_dt kL_law12 9 rfl) rfl rfl ?_
  refine Ev.iload 4 (am_dt kL_law12 10 rfl) rfl ?_
  refine Ev.iconst (v := 1) (am_dt kL_law12 11 rfl) (by decide) ?_
  refine Ev.iadd (am_dt kL_law12 12 rfl) ?_
  obtain ⟨f1, k⟩ := k
  refine Ev.scl hs (am_dt kL_law12 13 rfl) f1 ?_
  refine Ev.aload_n 0 (am_dt kL_law12 14 rfl) rfl rfl ?_
  refine Ev.iload 4 (am_dt kL_law12 15 rfl) rfl ?_
  refine Ev.iconst (v := 2) (am_dt kL_law12 16 rfl) (by decide) ?_
  refine Ev.iadd (am_dt kL_law12 17 rfl) ?_
  obtain ⟨f2, k⟩ := k
  refine Ev.scl hs (am_dt kL_law12 18 rfl) f2 ?_
  obtain ⟨f3, k⟩ := k
  refine Ev.callV (ci := 9) (v := mX9_likely) (As := [.int (xs (Int32.toNatClampNeg (x4 + 1))), .int (xs (Int32.toNatClampNeg (x4 + 2)))]) (st := []) okX9_likely wf_117 wf_118 wf_119 (am_dt kL_law12 19 rfl) (by decide) rfl rfl (Nat.le_of_ble_eq_true rfl) (Nat.le_of_ble_eq_true rfl) f3 ?_
  refine EvM.mono k (fun r5 h4 k => ?_)
  obtain ⟨v6, rfl, k⟩ := k
  show Ev w _ _ _ 840 _ [.long v6] _ _
  refine Ev.aload_n 2 (am_dt kL_law12 20 rfl) rfl rfl ?_
  refine Ev.aload_n 0 (am_dt kL_law12 21 rfl) rfl rfl ?_
  refine Ev.iload 4 (am_dt kL_law12 22 rfl) rfl ?_
  refine Ev.iconst (v := 1) (am_dt kL_law12 23 rfl) (by decide) ?_
  refine Ev.iadd (am_dt kL_law12 24 rfl) ?_
  obtain ⟨f7, k⟩ := k
  refine Ev.scl hs (am_dt kL_law12 25 rfl) f7 ?_
  refine Ev.aload_n 0 (am_dt kL_law12 26 rfl) rfl rfl ?_
  refine Ev.iload 4 (am_dt kL_law12 27 rfl) rfl ?_
  refine Ev.iconst (v := 2) (am_dt kL_law12 28 rfl) (by decide) ?_
  refine Ev.iadd (am_dt kL_law12 29 rfl) ?_
  obtain ⟨f8, k⟩ := k
  refine Ev.scl hs (am_dt kL_law12 30 rfl) f8 ?_
  obtain ⟨f9, k⟩ := k
  refine Ev.callV (ci := 10) (v := mX10_likely) (As := [.int (xs (Int32.toNatClampNeg (x4 + 1))), .int (xs (Int32.toNatClampNeg (x4 + 2)))]) (st := [.long v6]) okX10_likely wf_120 wf_121 wf_122 (am_dt kL_law12 31 rfl) (by decide) rfl rfl (Nat.le_of_ble_eq_true rfl) (Nat.le_of_ble_eq_true rfl) f9 ?_
  refine EvM.mono k (fun r11 h10 k => ?_)
  obtain ⟨v12, rfl, k⟩ := k
  show Ev w _ _ _ 856 _ [.long v12, .long v6] _ _
  refine Ev.lcmp (am_dt kL_law12 32 rfl) ?_
  refine Ev.if_eq (tgt := 1066) (am_dt kL_law12 33 rfl) (by decide) (fun c => ?_) (fun c => ?_)
  · have k := k.1 (am_lc.mp c)
    exact k
  · have k := k.2 (mt am_lc.mpr c)
    refine Ev.iconst (v := 0) (am_dt kL_law12 34 rfl) (by decide) ?_
    exact k.elim
set_option maxRecDepth 20000 in
set_option maxHeartbeats 2000000 in
theorem bL_law_862 {w : am_W} {d : Nat} {h : am_H} {Q : Option Value → am_H → Prop} {a0 : Nat} {a1 : Nat} {a2 : Nat} {a3 : Nat} {x4 : Int32}  {L : Nat} {xs : Nat → Int32} (hs : ScW w a0 L xs) (k : (vp_in (x4 + 1) L) ∧ ((vp_in (x4 + 2) L) ∧ ((hK h a1 = 9) ∧ (EvM w mX9_mean d [.ref a1, .int (xs (Int32.toNatClampNeg (x4 + 1))), .int (xs (Int32.toNatClampNeg (x4 + 2)))] h (fun r5 h4 => ∃ v6 : Int64, r5 = some (.long v6) ∧ ((vp_in (x4 + 1) L) ∧ ((vp_in (x4 + 2) L) ∧ ((hK h4 a2 = 10) ∧ (EvM w mX10_mean d [.ref a2, .int (xs (Int32.toNatClampNeg (x4 + 1))), .int (xs (Int32.toNatClampNeg (x4 + 2)))] h4 (fun r11 h10 => ∃ v12 : Int64, r11 = some (.long v12) ∧ ((v6 = v12 → (Ev w (zL w a0) mL_law (d + 1) 1066 [(0, .ref a0), (1, .ref a1), (2, .ref a2), (3, .ref a3), (4, .int x4)] [] h10 Q)) ∧ (¬ v6 = v12 → (False))))))))))))) : Ev w (zL w a0) mL_law (d + 1) 862 [(0, .ref a0), (1, .ref a1), (2, .ref a2), (3, .ref a3), (4, .int x4)] [] h Q := by
  refine Ev.aload_n 1 (am_dt kL_law12 36 rfl) rfl rfl ?_
  refine Ev.aload_n 0 (am_dt kL_law12 37 rfl) rfl rfl ?_
  refine Ev.iload 4 (am_dt kL_law12 38 rfl) rfl ?_
  refine Ev.iconst (v := 1) (am_dt kL_law12 39 rfl) (by decide) ?_
  refine Ev.iadd (am_dt kL_law13 0 rfl) ?_
  obtain ⟨f1, k⟩ := k
  refine Ev.scl hs (am_dt kL_law13 1 rfl) f1 ?_
  refine Ev.aload_n 0 (am_dt kL_law13 2 rfl) rfl rfl ?_
  refine Ev.iload 4 (am_dt kL_law13 3 rfl) rfl ?_
  refine Ev.iconst (v := 2) (am_dt kL_law13 4 rfl) (by decide) ?_
  refine Ev.iadd (am_dt kL_law13 5 rfl) ?_
  obtain ⟨f2, k⟩ := k
  refine Ev.scl hs (am_dt kL_law13 6 rfl) f2 ?_
  obtain ⟨f3, k⟩ := k
  refine Ev.callV (ci := 9) (v := mX9_mean) (As := [.int (xs (Int32.toNatClampNeg (x4 + 1))), .int (xs (Int32.toNatClampNeg (x4 + 2)))]) (st := []) okX9_mean wf_123 wf_124 wf_125 (am_dt kL_law13 7 rfl) (by decide) rfl rfl (Nat.le_of_ble_eq_true rfl) (Nat.le_of_ble_eq_true rfl) f3 ?_
  refine EvM.mono k (fun r5 h4 k => ?_)
  obtain ⟨v6, rfl, k⟩ := k
  show Ev w _ _ _ 878 _ [.long v6] _ _
  refine Ev.aload_n 2 (am_dt kL_law13 8 rfl) rfl rfl ?_
  refine Ev.aload_n 0 (am_dt kL_law13 9 rfl) rfl rfl ?_
  refine Ev.iload 4 (am_dt kL_law13 10 rfl) rfl ?_
  refine Ev.iconst (v := 1) (am_dt kL_law13 11 rfl) (by decide) ?_
  refine Ev.iadd (am_dt kL_law13 12 rfl) ?_
  obtain ⟨f7, k⟩ := k
  refine Ev.scl hs (am_dt kL_law13 13 rfl) f7 ?_
  refine Ev.aload_n 0 (am_dt kL_law13 14 rfl) rfl rfl ?_
  refine Ev.iload 4 (am_dt kL_law13 15 rfl) rfl ?_
  refine Ev.iconst (v := 2) (am_dt kL_law13 16 rfl) (by decide) ?_
  refine Ev.iadd (am_dt kL_law13 17 rfl) ?_
  obtain ⟨f8, k⟩ := k
  refine Ev.scl hs (am_dt kL_law13 18 rfl) f8 ?_
  obtain ⟨f9, k⟩ := k
  refine Ev.callV (ci := 10) (v := mX10_mean) (As := [.int (xs (Int32.toNatClampNeg (x4 + 1))), .int (xs (Int32.toNatClampNeg (x4 + 2)))]) (st := [.long v6]) okX10_mean wf_126 wf_127 wf_128 (am_dt kL_law13 19 rfl) (by decide) rfl rfl (Nat.le_of_ble_eq_true rfl) (Nat.le_of_ble_eq_true rfl) f9 ?_
  refine EvM.mono k (fun r11 h10 k => ?_)
  obtain ⟨v12, rfl, k⟩ := k
  show Ev w _ _ _ 894 _ [.long v12, .long v6] _ _
  refine Ev.lcmp (am_dt kL_law13 20 rfl) ?_
  refine Ev.if_eq (tgt := 1066) (am_dt kL_law13 21 rfl) (by decide) (fun c => ?_) (fun c => ?_)
  · have k := k.1 (am_lc.mp c)
    exact k
  · have k := k.2 (mt am_lc.mpr c)
    refine Ev.iconst (v := 0) (am_dt kL_law13 22 rfl) (by decide) ?_
    exact k.elim
set_option maxRecDepth 20000 in
set_option maxHeartbeats 2000000 in
theorem bL_law_900 {w : am_W} {d : Nat} {h : am_H} {Q : Option Value → am_H → Prop} {a0 : Nat} {a1 : Nat} {a2 : Nat} {a3 : Nat} {x4 : Int32}  {L : Nat} {xs : Nat → Int32} (hs : ScW w a0 L xs) (k : (vp_in (x4 + 1) L) ∧ ((hK h a1 = 9) ∧ (EvM w mX9_came d [.ref a1, .int (xs (Int32.toNatClampNeg (x4 + 1)))] h (fun r4 h3 => ∃ v5 : Int64, r4 = some (.long v5) ∧ ((vp_in (x4 + 1) L) ∧ ((hK h3 a2 = 10) ∧ (EvM w mX10_came d [.ref a2, .int (xs (Int32.toNatClampNeg (x4 + 1)))] h3 (fun r9 h8 => ∃ v10 : Int64, r9 = some (.long v10) ∧ ((v5 = v10 → (Ev w (zL w a0) mL_law (d + 1) 1066 [(0, .ref a0), (1, .ref a1), (2, .ref a2), (3, .ref a3), (4, .int x4)] [] h8 Q)) ∧ (¬ v5 = v10 → (False))))))))))) : Ev w (zL w a0) mL_law (d + 1) 900 [(0, .ref a0), (1, .ref a1), (2, .ref a2), (3, .ref a3), (4, .int x4)] [] h Q := by
  refine Ev.aload_n 1 (am_dt kL_law13 24 rfl) rfl rfl ?_
  refine Ev.aload_n 0 (am_dt kL_law13 25 rfl) rfl rfl ?_
  refine Ev.iload 4 (am_dt kL_law13 26 rfl) rfl ?_
  refine Ev.iconst (v := 1) (am_dt kL_law13 27 rfl) (by decide) ?_
  refine Ev.iadd (am_dt kL_law13 28 rfl) ?_
  obtain ⟨f1, k⟩ := k
  refine Ev.scl hs (am_dt kL_law13 29 rfl) f1 ?_
  obtain ⟨f2, k⟩ := k
  refine Ev.callV (ci := 9) (v := mX9_came) (As := [.int (xs (Int32.toNatClampNeg (x4 + 1)))]) (st := []) okX9_came wf_129 wf_130 wf_131 (am_dt kL_law13 30 rfl) (by decide) rfl rfl (Nat.le_of_ble_eq_true rfl) (Nat.le_of_ble_eq_true rfl) f2 ?_
  refine EvM.mono k (fun r4 h3 k => ?_)
  obtain ⟨v5, rfl, k⟩ := k
  show Ev w _ _ _ 910 _ [.long v5] _ _
  refine Ev.aload_n 2 (am_dt kL_law13 31 rfl) rfl rfl ?_
  refine Ev.aload_n 0 (am_dt kL_law13 32 rfl) rfl rfl ?_
  refine Ev.iload 4 (am_dt kL_law13 33 rfl) rfl ?_
  refine Ev.iconst (v := 1) (am_dt kL_law13 34 rfl) (by decide) ?_
  refine Ev.iadd (am_dt kL_law13 35 rfl) ?_
  obtain ⟨f6, k⟩ := k
  refine Ev.scl hs (am_dt kL_law13 36 rfl) f6 ?_
  obtain ⟨f7, k⟩ := k
  refine Ev.callV (ci := 10) (v := mX10_came) (As := [.int (xs (Int32.toNatClampNeg (x4 + 1)))]) (st := [.long v5]) okX10_came wf_132 wf_133 wf_134 (am_dt kL_law13 37 rfl) (by decide) rfl rfl (Nat.le_of_ble_eq_true rfl) (Nat.le_of_ble_eq_true rfl) f7 ?_
  refine EvM.mono k (fun r9 h8 k => ?_)
  obtain ⟨v10, rfl, k⟩ := k
  show Ev w _ _ _ 920 _ [.long v10, .long v5] _ _
  refine Ev.lcmp (am_dt kL_law13 38 rfl) ?_
  refine Ev.if_eq (tgt := 1066) (am_dt kL_law13 39 rfl) (by decide) (fun c => ?_) (fun c => ?_)
  · have k := k.1 (am_lc.mp c)
    exact k
  · have k := k.2 (mt am_lc.mpr c)
    refine Ev.iconst (v := 0) (am_dt kL_law14 0 rfl) (by decide) ?_
    exact k.elim
set_option maxRecDepth 20000 in
set_option maxHeartbeats 2000000 in
theorem bL_law_926 {w : am_W} {d : Nat} {h : am_H} {Q : Option Value → am_H → Prop} {a0 : Nat} {a1 : Nat} {a2 : Nat} {a3 : Nat} {x4 : Int32}  {L : Nat} {xs : Nat → Int32} (hs : ScW w a0 L xs) (k : (vp_in (x4 + 1) L) ∧ ((vp_in (x4 + 2) L) ∧ ((vp_in (x4 + 3) L) ∧ ((hK h a1 = 9) ∧ (EvM w mX9_lots d [.ref a1, .int (xs (Int32.toNatClampNeg (x4 + 1))), .int (xs (Int32.toNatClampNeg (x4 + 2))), .int (xs (Int32.toNatClampNeg (x4 + 3)))] h (fun r6 h5 => ∃ v7 : Int32, r6 = some (.int v7) ∧ ((vp_in (x4 + 1) L) ∧ ((vp_in (x4 + 2) L) ∧ ((vp_in (x4 + 3) L) ∧ ((hK h5 a2 = 10) ∧ (EvM w mX10_lots d [.ref a2, .int (xs (Int32.toNatClampNeg (x4 + 1))), .int (xs (Int32.toNatClampNeg (x4 + 2))), .int (xs (Int32.toNatClampNeg (x4 + 3)))] h5 (fun r13 h12 => ∃ v14 : Int32, r13 = some (.int v14) ∧ ((v7 = v14 → (Ev w (zL w a0) mL_law (d + 1) 1066 [(0, .ref a0), (1, .ref a1), (2, .ref a2), (3, .ref a3), (4, .int x4)] [] h12 Q)) ∧ (¬ v7 = v14 → (False))))))))))))))) : Ev w (zL w a0) mL_law (d + 1) 926 [(0, .ref a0), (1, .ref a1), (2, .ref a2), (3, .ref a3), (4, .int x4)] [] h Q := by
  refine Ev.aload_n 1 (am_dt kL_law14 2 rfl) rfl rfl ?_
  refine Ev.aload_n 0 (am_dt kL_law14 3 rfl) rfl rfl ?_
  refine Ev.iload 4 (am_dt kL_law14 4 rfl) rfl ?_
  refine Ev.iconst (v := 1) (am_dt kL_law14 5 rfl) (by decide) ?_
  refine Ev.iadd (am_dt kL_law14 6 rfl) ?_
  obtain ⟨f1, k⟩ := k
  refine Ev.scl hs (am_dt kL_law14 7 rfl) f1 ?_
  refine Ev.aload_n 0 (am_dt kL_law14 8 rfl) rfl rfl ?_
  refine Ev.iload 4 (am_dt kL_law14 9 rfl) rfl ?_
  refine Ev.iconst (v := 2) (am_dt kL_law14 10 rfl) (by decide) ?_
  refine Ev.iadd (am_dt kL_law14 11 rfl) ?_
  obtain ⟨f2, k⟩ := k
  refine Ev.scl hs (am_dt kL_law14 12 rfl) f2 ?_
  refine Ev.aload_n 0 (am_dt kL_law14 13 rfl) rfl rfl ?_
  refine Ev.iload 4 (am_dt kL_law14 14 rfl) rfl ?_
  refine Ev.iconst (v := 3) (am_dt kL_law14 15 rfl) (by decide) ?_
  refine Ev.iadd (am_dt kL_law14 16 rfl) ?_
  obtain ⟨f3, k⟩ := k
  refine Ev.scl hs (am_dt kL_law14 17 rfl) f3 ?_
  obtain ⟨f4, k⟩ := k
  refine Ev.callV (ci := 9) (v := mX9_lots) (As := [.int (xs (Int32.toNatClampNeg (x4 + 1))), .int (xs (Int32.toNatClampNeg (x4 + 2))), .int (xs (Int32.toNatClampNeg (x4 + 3)))]) (st := []) okX9_lots wf_135 wf_136 wf_137 (am_dt kL_law14 18 rfl) (by decide) rfl rfl (Nat.le_of_ble_eq_true rfl) (Nat.le_of_ble_eq_true rfl) f4 ?_
  refine EvM.mono k (fun r6 h5 k => ?_)
  obtain ⟨v7, rfl, k⟩ := k
  show Ev w _ _ _ 948 _ [.int v7] _ _
  refine Ev.aload_n 2 (am_dt kL_law14 19 rfl) rfl rfl ?_
  refine Ev.aload_n 0 (am_dt kL_law14 20 rfl) rfl rfl ?_
  refine Ev.iload 4 (am_dt kL_law14 21 rfl) rfl ?_
  refine Ev.iconst (v := 1) (am_dt kL_law14 22 rfl) (by decide) ?_
  refine Ev.iadd (am_dt kL_law14 23 rfl) ?_
  obtain ⟨f8, k⟩ := k
  refine Ev.scl hs (am_dt kL_law14 24 rfl) f8 ?_
  refine Ev.aload_n 0 (am_dt kL_law14 25 rfl) rfl rfl ?_
  refine Ev.iload 4 (am_dt kL_law14 26 rfl) rfl ?_
  refine Ev.iconst (v := 2) (am_dt kL_law14 27 rfl) (by decide) ?_
  refine Ev.iadd (am_dt kL_law14 28 rfl) ?_
  obtain ⟨f9, k⟩ := k
  refine Ev.scl hs (am_dt kL_law14 29 rfl) f9 ?_
  refine Ev.aload_n 0 (am_dt kL_law14 30 rfl) rfl rfl ?_
  refine Ev.iload 4 (am_dt kL_law14 31 rfl) rfl ?_
  refine Ev.iconst (v := 3) (am_dt kL_law14 32 rfl) (by decide) ?_
  refine Ev.iadd (am_dt kL_law14 33 rfl) ?_
  obtain ⟨f10, k⟩ := k
  refine Ev.scl hs (am_dt kL_law14 34 rfl) f10 ?_
  obtain ⟨f11, k⟩ := k
  refine Ev.callV (ci := 10) (v := mX10_lots) (As := [.int (xs (Int32.toNatClampNeg (x4 + 1))), .int (xs (Int32.toNatClampNeg (x4 + 2))), .int (xs (Int32.toNatClampNeg (x4 + 3)))]) (st := [.int v7]) okX10_lots wf_138 wf_139 wf_140 (am_dt kL_law14 35 rfl) (by decide) rfl rfl (Nat.le_of_ble_eq_true rfl) (Nat.le_of_ble_eq_true rfl) f11 ?_
  refine EvM.mono k (fun r13 h12 k => ?_)
  obtain ⟨v14, rfl, k⟩ := k
  show Ev w _ _ _ 970 _ [.int v14, .int v7] _ _
  refine Ev.icmp_eq (tgt := 1066) (am_dt kL_law14 36 rfl) (by decide) (fun c => ?_) (fun c => ?_)
  · have k := k.1 c
    exact k
  · have k := k.2 c
    refine Ev.iconst (v := 0) (am_dt kL_law14 37 rfl) (by decide) ?_
    exact k.elim
set_option maxRecDepth 20000 in
set_option maxHeartbeats 2000000 in
theorem bL_law_975 {w : am_W} {d : Nat} {h : am_H} {Q : Option Value → am_H → Prop} {a0 : Nat} {a1 : Nat} {a2 : Nat} {a3 : Nat} {x4 : Int32}  {L : Nat} {xs : Nat → Int32} (hs : ScW w a0 L xs) (k : (hK h a1 = 9) ∧ (EvM w mX9_best d [.ref a1] h (fun r3 h2 => ∃ v4 : Int32, r3 = some (.int v4) ∧ ((hK h2 a2 = 10) ∧ (EvM w mX10_best d [.ref a2] h2 (fun r7 h6 => ∃ v8 : Int32, r7 = some (.int v8) ∧ ((v4 = v8 → (Ev w (zL w a0) mL_law (d + 1) 1066 [(0, .ref a0), (1, .ref a1), (2, .ref a2), (3, .ref a3), (4, .int x4)] [] h6 Q)) ∧ (¬ v4 = v8 → (False))))))))) : Ev w (zL w a0) mL_law (d + 1) 975 [(0, .ref a0), (1, .ref a1), (2, .ref a2), (3, .ref a3), (4, .int x4)] [] h Q := by
  refine Ev.aload_n 1 (am_dt kL_law14 39 rfl) rfl rfl ?_
  obtain ⟨f1, k⟩ := k
  refine Ev.callV (ci := 9) (v := mX9_best) (As := []) (st := []) okX9_best wf_141 wf_142 wf_143 (am_dt kL_law15 0 rfl) (by decide) rfl rfl (Nat.le_of_ble_eq_true rfl) (Nat.le_of_ble_eq_true rfl) f1 ?_
  refine EvM.mono k (fun r3 h2 k => ?_)
  obtain ⟨v4, rfl, k⟩ := k
  show Ev w _ _ _ 979 _ [.int v4] _ _
  refine Ev.aload_n 2 (am_dt kL_law15 1 rfl) rfl rfl ?_
  obtain ⟨f5, k⟩ := k
  refine Ev.callV (ci := 10) (v := mX10_best) (As := []) (st := [.int v4]) okX10_best wf_144 wf_145 wf_146 (am_dt kL_law15 2 rfl) (by decide) rfl rfl (Nat.le_of_ble_eq_true rfl) (Nat.le_of_ble_eq_true rfl) f5 ?_
  refine EvM.mono k (fun r7 h6 k => ?_)
  obtain ⟨v8, rfl, k⟩ := k
  show Ev w _ _ _ 983 _ [.int v8, .int v4] _ _
  refine Ev.icmp_eq (tgt := 1066) (am_dt kL_law15 3 rfl) (by decide) (fun c => ?_) (fun c => ?_)
  · have k := k.1 c
    exact k
  · have k := k.2 c
    refine Ev.iconst (v := 0) (am_dt kL_law15 4 rfl) (by decide) ?_
    exact k.elim
set_option maxRecDepth 20000 in
set_option maxHeartbeats 2000000 in
theorem bL_law_988 {w : am_W} {d : Nat} {h : am_H} {Q : Option Value → am_H → Prop} {a0 : Nat} {a1 : Nat} {a2 : Nat} {a3 : Nat} {x4 : Int32}  {L : Nat} {xs : Nat → Int32} (hs : ScW w a0 L xs) (k : (vp_in (x4 + 1) L) ∧ ((vp_in (x4 + 2) L) ∧ (((xs (Int32.toNatClampNeg (x4 + 2))) = 0 → (Ev w (zL w a0) mL_law (d + 1) 1009 [(0, .ref a0), (1, .ref a1), (2, .ref a2), (3, .ref a3), (4, .int x4)] [.int 0, .int (xs (Int32.toNatClampNeg (x4 + 1))), .ref a1] h Q)) ∧ (¬ (xs (Int32.toNatClampNeg (x4 + 2))) = 0 → (Ev w (zL w a0) mL_law (d + 1) 1009 [(0, .ref a0), (1, .ref a1), (2, .ref a2), (3, .ref a3), (4, .int x4)] [.int 1, .int (xs (Int32.toNatClampNeg (x4 + 1))), .ref a1] h Q))))) : Ev w (zL w a0) mL_law (d + 1) 988 [(0, .ref a0), (1, .ref a1), (2, .ref a2), (3, .ref a3), (4, .int x4)] [] h Q := by
  refine Ev.aload_n 1 (am_dt kL_law15 6 rfl) rfl rfl ?_
  refine Ev.aload_n 0 (am_dt kL_law15 7 rfl) rfl rfl ?_
  refine Ev.iload 4 (am_dt kL_law15 8 rfl) rfl ?_
  refine Ev.iconst (v := 1) (am_dt kL_law15 9 rfl) (by decide) ?_
  refine Ev.iadd (am_dt kL_law15 10 rfl) ?_
  obtain ⟨f1, k⟩ := k
  refine Ev.scl hs (am_dt kL_law15 11 rfl) f1 ?_
  refine Ev.aload_n 0 (am_dt kL_law15 12 rfl) rfl rfl ?_
  refine Ev.iload 4 (am_dt kL_law15 13 rfl) rfl ?_
  refine Ev.iconst (v := 2) (am_dt kL_law15 14 rfl) (by decide) ?_
  refine Ev.iadd (am_dt kL_law15 15 rfl) ?_
  obtain ⟨f2, k⟩ := k
  refine Ev.scl hs (am_dt kL_law15 16 rfl) f2 ?_
  refine Ev.if_eq (tgt := 1008) (am_dt kL_law15 17 rfl) (by decide) (fun c => ?_) (fun c => ?_)
  · have k := k.1 c
    refine Ev.iconst (v := 0) (am_dt kL_law15 20 rfl) (by decide) ?_
    exact k
  · have k := k.2 c
    refine Ev.iconst (v := 1) (am_dt kL_law15 18 rfl) (by decide) ?_
    refine Ev.goto (tgt := 1009) (am_dt kL_law15 19 rfl) (by decide) ?_
    exact k
set_option maxRecDepth 20000 in
set_option maxHeartbeats 2000000 in
theorem bL_law_1041 {w : am_W} {d : Nat} {h : am_H} {Q : Option Value → am_H → Prop} {a0 : Nat} {a1 : Nat} {a2 : Nat} {a3 : Nat} {x4 : Int32}  {L : Nat} {xs : Nat → Int32} (hs : ScW w a0 L xs) (k : (vp_in (x4 + 1) L) ∧ ((hK h a1 = 9) ∧ (EvM w mX9_count d [.ref a1, .int (xs (Int32.toNatClampNeg (x4 + 1)))] h (fun r4 h3 => ∃ v5 : Int32, r4 = some (.int v5) ∧ ((vp_in (x4 + 1) L) ∧ ((hK h3 a2 = 10) ∧ (EvM w mX10_count d [.ref a2, .int (xs (Int32.toNatClampNeg (x4 + 1)))] h3 (fun r9 h8 => ∃ v10 : Int32, r9 = some (.int v10) ∧ ((v5 = v10 → (Ev w (zL w a0) mL_law (d + 1) 1066 [(0, .ref a0), (1, .ref a1), (2, .ref a2), (3, .ref a3), (4, .int x4)] [] h8 Q)) ∧ (¬ v5 = v10 → (False))))))))))) : Ev w (zL w a0) mL_law (d + 1) 1041 [(0, .ref a0), (1, .ref a1), (2, .ref a2), (3, .ref a3), (4, .int x4)] [] h Q := by
  refine Ev.aload_n 1 (am_dt kL_law16 1 rfl) rfl rfl ?_
  refine Ev.aload_n 0 (am_dt kL_law16 2 rfl) rfl rfl ?_
  refine Ev.iload 4 (am_dt kL_law16 3 rfl) rfl ?_
  refine Ev.iconst (v := 1) (am_dt kL_law16 4 rfl) (by decide) ?_
  refine Ev.iadd (am_dt kL_law16 5 rfl) ?_
  obtain ⟨f1, k⟩ := k
  refine Ev.scl hs (am_dt kL_law16 6 rfl) f1 ?_
  obtain ⟨f2, k⟩ := k
  refine Ev.callV (ci := 9) (v := mX9_count) (As := [.int (xs (Int32.toNatClampNeg (x4 + 1)))]) (st := []) okX9_count wf_147 wf_148 wf_149 (am_dt kL_law16 7 rfl) (by decide) rfl rfl (Nat.le_of_ble_eq_true rfl) (Nat.le_of_ble_eq_true rfl) f2 ?_
  refine EvM.mono k (fun r4 h3 k => ?_)
  obtain ⟨v5, rfl, k⟩ := k
  show Ev w _ _ _ 1051 _ [.int v5] _ _
  refine Ev.aload_n 2 (am_dt kL_law16 8 rfl) rfl rfl ?_
  refine Ev.aload_n 0 (am_dt kL_law16 9 rfl) rfl rfl ?_
  refine Ev.iload 4 (am_dt kL_law16 10 rfl) rfl ?_
  refine Ev.iconst (v := 1) (am_dt kL_law16 11 rfl) (by decide) ?_
  refine Ev.iadd (am_dt kL_law16 12 rfl) ?_
  obtain ⟨f6, k⟩ := k
  refine Ev.scl hs (am_dt kL_law16 13 rfl) f6 ?_
  obtain ⟨f7, k⟩ := k
  refine Ev.callV (ci := 10) (v := mX10_count) (As := [.int (xs (Int32.toNatClampNeg (x4 + 1)))]) (st := [.int v5]) okX10_count wf_150 wf_151 wf_152 (am_dt kL_law16 14 rfl) (by decide) rfl rfl (Nat.le_of_ble_eq_true rfl) (Nat.le_of_ble_eq_true rfl) f7 ?_
  refine EvM.mono k (fun r9 h8 k => ?_)
  obtain ⟨v10, rfl, k⟩ := k
  show Ev w _ _ _ 1061 _ [.int v10, .int v5] _ _
  refine Ev.icmp_eq (tgt := 1066) (am_dt kL_law16 15 rfl) (by decide) (fun c => ?_) (fun c => ?_)
  · have k := k.1 c
    exact k
  · have k := k.2 c
    refine Ev.iconst (v := 0) (am_dt kL_law16 16 rfl) (by decide) ?_
    exact k.elim
set_option maxRecDepth 20000 in
set_option maxHeartbeats 2000000 in
theorem bL_law_1066 {w : am_W} {d : Nat} {h : am_H} {Q : Option Value → am_H → Prop} {a0 : Nat} {a1 : Nat} {a2 : Nat} {a3 : Nat} {x4 : Int32}  {L : Nat} {xs : Nat → Int32} (hs : ScW w a0 L xs) (k : Ev w (zL w a0) mL_law (d + 1) 23 [(0, .ref a0), (1, .ref a1), (2, .ref a2), (3, .ref a3), (4, .int (x4 + 7))] [] h Q) : Ev w (zL w a0) mL_law (d + 1) 1066 [(0, .ref a0), (1, .ref a1), (2, .ref a2), (3, .ref a3), (4, .int x4)] [] h Q := by
  refine Ev.iinc (v := x4 + 7) (lv' := [(4, .int (x4 + 7)), (0, .ref a0), (1, .ref a1), (2, .ref a2), (3, .ref a3)]) 4 (am_dt kL_law16 18 rfl) rfl rfl (by decide) rfl ?_
  refine Ev.goto (tgt := 23) (am_dt kL_law16 19 rfl) (by decide) ?_
  exact Ev.sub [1, 2, 3, 4, 0] rfl k
set_option maxRecDepth 20000 in
set_option maxHeartbeats 2000000 in
theorem bL_law_1009 {w : am_W} {d : Nat} {h : am_H} {Q : Option Value → am_H → Prop} {a0 : Nat} {a1 : Nat} {a2 : Nat} {a3 : Nat} {x4 : Int32} {s0 : Int32} {s1 : Int32} {s2 : Nat} {L : Nat} {xs : Nat → Int32} (hs : ScW w a0 L xs) (k : (hK h s2 = 9) ∧ (EvM w mX9_mark d [.ref s2, .int s1, .int s0] h (fun r3 h2 => ∃ v4 : Int32, r3 = some (.int v4) ∧ ((vp_in (x4 + 1) L) ∧ ((vp_in (x4 + 2) L) ∧ (((xs (Int32.toNatClampNeg (x4 + 2))) = 0 → ((hK h2 a2 = 10) ∧ (EvM w mX10_mark d [.ref a2, .int (xs (Int32.toNatClampNeg (x4 + 1))), .int 0] h2 (fun r9 h8 => ∃ v10 : Int32, r9 = some (.int v10) ∧ ((v4 = v10 → (Ev w (zL w a0) mL_law (d + 1) 1066 [(0, .ref a0), (1, .ref a1), (2, .ref a2), (3, .ref a3), (4, .int x4)] [] h8 Q)) ∧ (¬ v4 = v10 → (False))))))) ∧ (¬ (xs (Int32.toNatClampNeg (x4 + 2))) = 0 → ((hK h2 a2 = 10) ∧ (EvM w mX10_mark d [.ref a2, .int (xs (Int32.toNatClampNeg (x4 + 1))), .int 1] h2 (fun r13 h12 => ∃ v14 : Int32, r13 = some (.int v14) ∧ ((v4 = v14 → (Ev w (zL w a0) mL_law (d + 1) 1066 [(0, .ref a0), (1, .ref a1), (2, .ref a2), (3, .ref a3), (4, .int x4)] [] h12 Q)) ∧ (¬ v4 = v14 → (False))))))))))))) : Ev w (zL w a0) mL_law (d + 1) 1009 [(0, .ref a0), (1, .ref a1), (2, .ref a2), (3, .ref a3), (4, .int x4)] [.int s0, .int s1, .ref s2] h Q := by
  obtain ⟨f1, k⟩ := k
  refine Ev.callV (ci := 9) (v := mX9_mark) (As := [.int s1, .int s0]) (st := []) okX9_mark wf_153 wf_154 wf_155 (am_dt kL_law15 21 rfl) (by decide) rfl rfl (Nat.le_of_ble_eq_true rfl) (Nat.le_of_ble_eq_true rfl) f1 ?_
  refine EvM.mono k (fun r3 h2 k => ?_)
  obtain ⟨v4, rfl, k⟩ := k
  show Ev w _ _ _ 1012 _ [.int v4] _ _
  refine Ev.aload_n 2 (am_dt kL_law15 22 rfl) rfl rfl ?_
  refine Ev.aload_n 0 (am_dt kL_law15 23 rfl) rfl rfl ?_
  refine Ev.iload 4 (am_dt kL_law15 24 rfl) rfl ?_
  refine Ev.iconst (v := 1) (am_dt kL_law15 25 rfl) (by decide) ?_
  refine Ev.iadd (am_dt kL_law15 26 rfl) ?_
  obtain ⟨f5, k⟩ := k
  refine Ev.scl hs (am_dt kL_law15 27 rfl) f5 ?_
  refine Ev.aload_n 0 (am_dt kL_law15 28 rfl) rfl rfl ?_
  refine Ev.iload 4 (am_dt kL_law15 29 rfl) rfl ?_
  refine Ev.iconst (v := 2) (am_dt kL_law15 30 rfl) (by decide) ?_
  refine Ev.iadd (am_dt kL_law15 31 rfl) ?_
  obtain ⟨f6, k⟩ := k
  refine Ev.scl hs (am_dt kL_law15 32 rfl) f6 ?_
  refine Ev.if_eq (tgt := 1032) (am_dt kL_law15 33 rfl) (by decide) (fun c => ?_) (fun c => ?_)
  · have k := k.1 c
    refine Ev.iconst (v := 0) (am_dt kL_law15 36 rfl) (by decide) ?_
    obtain ⟨f7, k⟩ := k
    refine Ev.callV (ci := 10) (v := mX10_mark) (As := [.int (xs (Int32.toNatClampNeg (x4 + 1))), .int 0]) (st := [.int v4]) okX10_mark wf_156 wf_157 wf_158 (am_dt kL_law15 37 rfl) (by decide) rfl rfl (Nat.le_of_ble_eq_true rfl) (Nat.le_of_ble_eq_true rfl) f7 ?_
    refine EvM.mono k (fun r9 h8 k => ?_)
    obtain ⟨v10, rfl, k⟩ := k
    show Ev w _ _ _ 1036 _ [.int v10, .int v4] _ _
    refine Ev.icmp_eq (tgt := 1066) (am_dt kL_law15 38 rfl) (by decide) (fun c => ?_) (fun c => ?_)
    · have k := k.1 c
      exact k
    · have k := k.2 c
      refine Ev.iconst (v := 0) (am_dt kL_law15 39 rfl) (by decide) ?_
      exact k.elim
  · have k := k.2 c
    refine Ev.iconst (v := 1) (am_dt kL_law15 34 rfl) (by decide) ?_
    refine Ev.goto (tgt := 1033) (am_dt kL_law15 35 rfl) (by decide) ?_
    obtain ⟨f11, k⟩ := k
    refine Ev.callV (ci := 10) (v := mX10_mark) (As := [.int (xs (Int32.toNatClampNeg (x4 + 1))), .int 1]) (st := [.int v4]) okX10_mark wf_156 wf_157 wf_158 (am_dt kL_law15 37 rfl) (by decide) rfl rfl (Nat.le_of_ble_eq_true rfl) (Nat.le_of_ble_eq_true rfl) f11 ?_
    refine EvM.mono k (fun r13 h12 k => ?_)
    obtain ⟨v14, rfl, k⟩ := k
    show Ev w _ _ _ 1036 _ [.int v14, .int v4] _ _
    refine Ev.icmp_eq (tgt := 1066) (am_dt kL_law15 38 rfl) (by decide) (fun c => ?_) (fun c => ?_)
    · have k := k.1 c
      exact k
    · have k := k.2 c
      refine Ev.iconst (v := 0) (am_dt kL_law15 39 rfl) (by decide) ?_
      exact k.elim
set_option maxRecDepth 20000 in
set_option maxHeartbeats 2000000 in
theorem bL_law_597 {w : am_W} {d : Nat} {h : am_H} {Q : Option Value → am_H → Prop} {a0 : Nat} {a1 : Nat} {a2 : Nat} {a3 : Nat} {x4 : Int32} {s0 : Int32} {L : Nat} {xs : Nat → Int32} (hs : ScW w a0 L xs) (k : (vp_in (x4 + 1) L) ∧ ((vp_in (x4 + 2) L) ∧ ((hK h a2 = 10) ∧ (EvM w mX10_turn d [.ref a2, .int (xs (Int32.toNatClampNeg (x4 + 1))), .int (xs (Int32.toNatClampNeg (x4 + 2)))] h (fun r5 h4 => ∃ v6 : Int32, r5 = some (.int v6) ∧ ((hK h4 a2 = 10) ∧ (EvM w mX10_thrown d [.ref a2] h4 (fun r9 h8 => ∃ v10 : Int32, r9 = some (.int v10) ∧ ((v10 = s0 → ((s0 = 0 → ((hK h8 a3 = 13) ∧ ((vp_in 0 (hN h8 a3)) ∧ (((hJ h8 a3 (Int32.toNatClampNeg 0)) = (Int32.toInt64 v6) → (Ev w (zL w a0) mL_law (d + 1) 1066 [(0, .ref a0), (1, .ref a1), (2, .ref a2), (3, .ref a3), (4, .int x4)] [] h8 Q)) ∧ (¬ (hJ h8 a3 (Int32.toNatClampNeg 0)) = (Int32.toInt64 v6) → (False)))))) ∧ (¬ s0 = 0 → (Ev w (zL w a0) mL_law (d + 1) 1066 [(0, .ref a0), (1, .ref a1), (2, .ref a2), (3, .ref a3), (4, .int x4)] [] h8 Q)))) ∧ (¬ v10 = s0 → (False))))))))))) : Ev w (zL w a0) mL_law (d + 1) 597 [(0, .ref a0), (1, .ref a1), (2, .ref a2), (3, .ref a3), (4, .int x4)] [.int s0] h Q := by
  refine Ev.istore (lv' := [(5, .int s0), (0, .ref a0), (1, .ref a1), (2, .ref a2), (3, .ref a3), (4, .int x4)]) (am_dt kL_law8 20 rfl) (by decide) rfl ?_
  refine Ev.aload_n 3 (am_dt kL_law8 21 rfl) rfl rfl ?_
  refine Ev.aload_n 1 (am_dt kL_law8 22 rfl) rfl rfl ?_
  refine Ev.iload 5 (am_dt kL_law8 23 rfl) rfl ?_
  refine Ev.iconst (v := 1) (am_dt kL_law8 24 rfl) (by decide) ?_
  refine Ev.iadd (am_dt kL_law8 25 rfl) ?_
  obtain ⟨f1, k⟩ := k
  refine Ev.scl hs (am_dt kL_law8 26 rfl) f1 ?_
  refine Ev.aload_n 1 (am_dt kL_law8 27 rfl) rfl rfl ?_
  refine Ev.iload 5 (am_dt kL_law8 28 rfl) rfl ?_
  refine Ev.iconst (v := 2) (am_dt kL_law8 29 rfl) (by decide) ?_
  refine Ev.iadd (am_dt kL_law8 30 rfl) ?_
  obtain ⟨f2, k⟩ := k
  refine Ev.scl hs (am_dt kL_law8 31 rfl) f2 ?_
  obtain ⟨f3, k⟩ := k
  refine Ev.callV (ci := 10) (v := mX10_turn) (As := [.int (xs (Int32.toNatClampNeg (x4 + 1))), .int (xs (Int32.toNatClampNeg (x4 + 2)))]) (st := []) okX10_turn wf_159 wf_160 wf_161 (am_dt kL_law8 32 rfl) (by decide) rfl rfl (Nat.le_of_ble_eq_true rfl) (Nat.le_of_ble_eq_true rfl) f3 ?_
  refine EvM.mono k (fun r5 h4 k => ?_)
  obtain ⟨v6, rfl, k⟩ := k
  show Ev w _ _ _ 615 _ [.int v6] _ _
  refine Ev.istore (lv' := [(6, .int v6), (5, .int s0), (0, .ref a0), (1, .ref a1), (2, .ref a2), (3, .ref a3), (4, .int x4)]) (am_dt kL_law8 33 rfl) (by decide) rfl ?_
  refine Ev.aload_n 4 (am_dt kL_law8 34 rfl) rfl rfl ?_
  obtain ⟨f7, k⟩ := k
  refine Ev.callV (ci := 10) (v := mX10_thrown) (As := []) (st := []) okX10_thrown wf_162 wf_163 wf_164 (am_dt kL_law8 35 rfl) (by decide) rfl rfl (Nat.le_of_ble_eq_true rfl) (Nat.le_of_ble_eq_true rfl) f7 ?_
  refine EvM.mono k (fun r9 h8 k => ?_)
  obtain ⟨v10, rfl, k⟩ := k
  show Ev w _ _ _ 621 _ [.int v10] _ _
  refine Ev.iload 1 (am_dt kL_law8 36 rfl) rfl ?_
  refine Ev.icmp_eq (tgt := 628) (am_dt kL_law8 37 rfl) (by decide) (fun c => ?_) (fun c => ?_)
  · have k := k.1 c
    refine Ev.iload 1 (am_dt kL_law9 0 rfl) rfl ?_
    refine Ev.if_ne (tgt := 645) (am_dt kL_law9 1 rfl) (by decide) (fun c => ?_) (fun c => ?_)
    · have k := k.2 c
      refine Ev.goto (tgt := 1066) (am_dt kL_law9 11 rfl) (by decide) ?_
      exact Ev.sub [2, 3, 4, 5, 6] rfl k
    · have k := k.1 c
      refine Ev.aload_n 5 (am_dt kL_law9 2 rfl) rfl rfl ?_
      refine Ev.iconst (v := 0) (am_dt kL_law9 3 rfl) (by decide) ?_
      obtain ⟨f11, k⟩ := k
      obtain ⟨f12, k⟩ := k
      refine Ev.lald (am_dt kL_law9 4 rfl) f11 f12 ?_
      refine Ev.iload 0 (am_dt kL_law9 5 rfl) rfl ?_
      refine Ev.i2l (am_dt kL_law9 6 rfl) ?_
      refine Ev.lcmp (am_dt kL_law9 7 rfl) ?_
      refine Ev.if_eq (tgt := 645) (am_dt kL_law9 8 rfl) (by decide) (fun c => ?_) (fun c => ?_)
      · have k := k.1 (am_lc.mp c)
        refine Ev.goto (tgt := 1066) (am_dt kL_law9 11 rfl) (by decide) ?_
        exact Ev.sub [2, 3, 4, 5, 6] rfl k
      · have k := k.2 (mt am_lc.mpr c)
        refine Ev.iconst (v := 0) (am_dt kL_law9 9 rfl) (by decide) ?_
        exact k.elim
  · have k := k.2 c
    refine Ev.iconst (v := 0) (am_dt kL_law8 38 rfl) (by decide) ?_
    exact k.elim
