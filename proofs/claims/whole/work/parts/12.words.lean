theorem am_wl {ws src : List Cond} {is : List Nat} {g : Cond → Bool} (e : ws = is.filterMap (fun i => src[i]?)) (hg : ws.all g = true) {x : Cond} (h : x ∈ ws) : x ∈ src.filter g := by
  have h2 := List.all_eq_true.mp hg x h
  rw [e] at h
  obtain ⟨i, -, hi⟩ := List.mem_filterMap.mp h
  exact List.mem_filter.mpr ⟨List.mem_of_getElem? hi, h2⟩
set_option maxRecDepth 100000 in
theorem wd_3 : Cond.code Lib.objectInit ⟨#[0xb1]⟩ 1 none ∈ am_big := in_big 122 rfl rfl
set_option maxRecDepth 100000 in
theorem wd_7 : Cond.code Lib.Math.max.name Lib.Math.max.code 2 (some .int) ∈ am_big := in_big 137 rfl rfl
set_option maxRecDepth 100000 in
theorem wd_75 : Cond.code Lib.Math.min.name Lib.Math.min.code 2 (some .int) ∈ am_big := in_big 668 rfl rfl
set_option maxRecDepth 100000 in
theorem wd_785 : Cond.code yX0_init cX0_init 2 none ∈ am_big := in_big 356 rfl rfl
set_option maxRecDepth 100000 in
theorem wd_786 : Cond.code yX0_empty cX0_empty 1 none ∈ am_big := in_big 860 rfl rfl
set_option maxRecDepth 100000 in
theorem wd_787 : Cond.code yX0_join cX0_join 3 none ∈ am_big := in_big 891 rfl rfl
set_option maxRecDepth 100000 in
theorem wd_788 : Cond.code yX0_leaveFirst cX0_leaveFirst 3 none ∈ am_big := in_big 874 rfl rfl
set_option maxRecDepth 100000 in
theorem wd_789 : Cond.code yX0_leave cX0_leave 5 none ∈ am_big := in_big 868 rfl rfl
set_option maxRecDepth 100000 in
theorem wd_790 : Cond.code yX0_size cX0_size 1 (some .int) ∈ am_big := in_big 899 rfl rfl
set_option maxRecDepth 100000 in
theorem wd_791 : Cond.code yX0_countWithGuests cX0_countWithGuests 1 (some .int) ∈ am_big := in_big 911 rfl rfl
set_option maxRecDepth 100000 in
theorem wd_792 : Cond.code yX0_loadWithGuests cX0_loadWithGuests 1 (some .int) ∈ am_big := in_big 915 rfl rfl
set_option maxRecDepth 100000 in
theorem wd_793 : Cond.code yX1_init cX1_init 1 none ∈ am_big := in_big 448 rfl rfl
set_option maxRecDepth 100000 in
theorem wd_794 : Cond.code yX1_weigh cX1_weigh 7 none ∈ am_big := in_big 1045 rfl rfl
set_option maxRecDepth 100000 in
theorem wd_795 : Cond.code yX1_seat cX1_seat 4 none ∈ am_big := in_big 1050 rfl rfl
set_option maxRecDepth 100000 in
theorem wd_796 : Cond.code yX1_findCheapest cX1_findCheapest 3 none ∈ am_big := in_big 1060 rfl rfl
set_option maxRecDepth 100000 in
theorem wd_797 : Cond.code yX1_findResting cX1_findResting 4 none ∈ am_big := in_big 1064 rfl rfl
set_option maxRecDepth 100000 in
theorem wd_798 : Cond.code yX1_isAtRest cX1_isAtRest 5 (some .boolean) ∈ am_big := in_big 1068 rfl rfl
set_option maxRecDepth 100000 in
theorem wd_799 : Cond.code yX2_init cX2_init 3 none ∈ am_big := in_big 133 rfl rfl
set_option maxRecDepth 100000 in
theorem wd_800 : Cond.code yX2_add cX2_add 6 none ∈ am_big := in_big 803 rfl rfl
set_option maxRecDepth 100000 in
theorem wd_801 : Cond.code yX2_timeAt cX2_timeAt 2 (some .int) ∈ am_big := in_big 882 rfl rfl
set_option maxRecDepth 100000 in
theorem wd_802 : Cond.code yX3_init cX3_init 4 none ∈ am_big := in_big 349 rfl rfl
set_option maxRecDepth 100000 in
theorem wd_803 : Cond.code yX3_begin cX3_begin 6 none ∈ am_big := in_big 855 rfl rfl
set_option maxRecDepth 100000 in
theorem wd_804 : Cond.code yX3_letGoHome cX3_letGoHome 3 none ∈ am_big := in_big 1037 rfl rfl
set_option maxRecDepth 100000 in
theorem wd_805 : Cond.code yX3_run cX3_run 4 none ∈ am_big := in_big 864 rfl rfl
set_option maxRecDepth 100000 in
theorem wd_806 : Cond.code yX3_soonest cX3_soonest 6 (some .int) ∈ am_big := in_big 943 rfl rfl
set_option maxRecDepth 100000 in
theorem wd_807 : Cond.code yX3_firstHolding cX3_firstHolding 4 (some .int) ∈ am_big := in_big 951 rfl rfl
set_option maxRecDepth 100000 in
theorem wd_808 : Cond.code yX3_come cX3_come 3 none ∈ am_big := in_big 878 rfl rfl
set_option maxRecDepth 100000 in
theorem wd_809 : Cond.code yX3_bankOf cX3_bankOf 2 (some (.object "EvenFerry$Bank")) ∈ am_big := in_big 887 rfl rfl
set_option maxRecDepth 100000 in
theorem wd_810 : Cond.code yX3_wouldRing cX3_wouldRing 2 (some .boolean) ∈ am_big := in_big 895 rfl rfl
set_option maxRecDepth 100000 in
theorem wd_811 : Cond.code yX3_wouldRingWith cX3_wouldRingWith 6 (some .boolean) ∈ am_big := in_big 1021 rfl rfl
set_option maxRecDepth 100000 in
theorem wd_812 : Cond.code yX3_freeBoat cX3_freeBoat 3 (some .int) ∈ am_big := in_big 903 rfl rfl
set_option maxRecDepth 100000 in
theorem wd_813 : Cond.code yX3_gatherFacts cX3_gatherFacts 2 none ∈ am_big := in_big 907 rfl rfl
set_option maxRecDepth 100000 in
theorem wd_814 : Cond.code yX3_earliest cX3_earliest 5 (some .int) ∈ am_big := in_big 919 rfl rfl
set_option maxRecDepth 100000 in
theorem wd_815 : Cond.code yX3_goOver cX3_goOver 2 none ∈ am_big := in_big 934 rfl rfl
set_option maxRecDepth 100000 in
theorem wd_816 : Cond.code yX3_board cX3_board 6 (some .int) ∈ am_big := in_big 938 rfl rfl
set_option maxRecDepth 100000 in
theorem wd_817 : Cond.code yX3_misjudged cX3_misjudged 7 (some .int) ∈ am_big := in_big 1104 rfl rfl
set_option maxRecDepth 100000 in
theorem wd_818 : Cond.code yX3_isWaitingBehind cX3_isWaitingBehind 3 (some .boolean) ∈ am_big := in_big 1003 rfl rfl
set_option maxRecDepth 100000 in
theorem wd_819 : Cond.code yX3_waitOf cX3_waitOf 2 (some .int) ∈ am_big := in_big 963 rfl rfl
set_option maxRecDepth 100000 in
theorem wd_820 : Cond.code yX3_longestWait cX3_longestWait 3 (some .int) ∈ am_big := in_big 980 rfl rfl
set_option maxRecDepth 100000 in
theorem wd_821 : Cond.code yX3_costOf cX3_costOf 2 (some .int) ∈ am_big := in_big 975 rfl rfl
set_option maxRecDepth 100000 in
theorem wd_822 : Cond.code yX3_costWithout cX3_costWithout 4 (some .int) ∈ am_big := in_big 971 rfl rfl
set_option maxRecDepth 100000 in
theorem wd_823 : Cond.code yX4_init cX4_init 1 none ∈ am_big := in_big 482 rfl rfl
set_option maxRecDepth 100000 in
theorem wd_824 : Cond.code yX4_isKnown cX4_isKnown 3 (some .boolean) ∈ am_big := in_big 1143 rfl rfl
set_option maxRecDepth 100000 in
theorem wd_825 : Cond.code yX4_go cX4_go 6 none ∈ am_big := in_big 1147 rfl rfl
set_option maxRecDepth 100000 in
theorem wd_826 : Cond.code yX4_drawCrowd cX4_drawCrowd 4 none ∈ am_big := in_big 1151 rfl rfl
set_option maxRecDepth 100000 in
theorem wd_827 : Cond.code yX4_draw cX4_draw 2 (some .int) ∈ am_big := in_big 1155 rfl rfl
set_option maxRecDepth 100000 in
theorem wd_828 : Cond.code yX4_addUp cX4_addUp 4 none ∈ am_big := in_big 1166 rfl rfl
set_option maxRecDepth 100000 in
theorem wd_829 : Cond.code yX5_init cX5_init 3 none ∈ am_big := in_big 285 rfl rfl
set_option maxRecDepth 100000 in
theorem wd_830 : Cond.code yX5_read cX5_read 3 (some .int) ∈ am_big := in_big 711 rfl rfl
set_option maxRecDepth 100000 in
theorem wd_831 : Cond.code yX5_kind cX5_kind 1 (some .int) ∈ am_big := in_big 715 rfl rfl
set_option maxRecDepth 100000 in
theorem wd_832 : Cond.code yX5_step cX5_step 1 none ∈ am_big := in_big 731 rfl rfl
set_option maxRecDepth 100000 in
theorem wd_833 : Cond.code yX5_wrong cX5_wrong 2 none ∈ am_big := in_big 727 rfl rfl
set_option maxRecDepth 100000 in
theorem wd_834 : Cond.code yX5_expect cX5_expect 2 none ∈ am_big := in_big 746 rfl rfl
set_option maxRecDepth 100000 in
theorem wd_835 : Cond.code yX5_number cX5_number 4 (some .int) ∈ am_big := in_big 735 rfl rfl
set_option maxRecDepth 100000 in
theorem wd_836 : Cond.code yX5_line cX5_line 2 none ∈ am_big := in_big 719 rfl rfl
set_option maxRecDepth 100000 in
theorem wd_837 : Cond.code yX5_lineToldOnce cX5_lineToldOnce 3 none ∈ am_big := in_big 723 rfl rfl
set_option maxRecDepth 100000 in
theorem wd_838 : Cond.code yX5_personLine cX5_personLine 6 none ∈ am_big := in_big 775 rfl rfl
set_option maxRecDepth 100000 in
theorem wd_839 : Cond.code yX5_name cX5_name 5 none ∈ am_big := in_big 779 rfl rfl
set_option maxRecDepth 100000 in
theorem wd_840 : Cond.code yX5_sideWord cX5_sideWord 2 (some .int) ∈ am_big := in_big 788 rfl rfl
set_option maxRecDepth 100000 in
theorem wd_841 : Cond.code yX5_kindWord cX5_kindWord 2 (some .int) ∈ am_big := in_big 792 rfl rfl
set_option maxRecDepth 100000 in
theorem wd_842 : Cond.code yX5_lawLine cX5_lawLine 1 none ∈ am_big := in_big 750 rfl rfl
set_option maxRecDepth 100000 in
theorem wd_843 : Cond.code yX5_write cX5_write 2 none ∈ am_big := in_big 762 rfl rfl
set_option maxRecDepth 100000 in
theorem wd_844 : Cond.code yX5_chain cX5_chain 6 none ∈ am_big := in_big 754 rfl rfl
set_option maxRecDepth 100000 in
theorem wd_845 : Cond.code yX5_levelOf cX5_levelOf 1 (some .int) ∈ am_big := in_big 766 rfl rfl
set_option maxRecDepth 100000 in
theorem wd_846 : Cond.code yX5_part cX5_part 5 none ∈ am_big := in_big 758 rfl rfl
set_option maxRecDepth 100000 in
theorem wd_847 : Cond.code yX6_init cX6_init 1 none ∈ am_big := in_big 127 rfl rfl
set_option maxRecDepth 100000 in
theorem wd_848 : Cond.code yX6_addPerson cX6_addPerson 7 none ∈ am_big := in_big 796 rfl rfl
set_option maxRecDepth 100000 in
theorem wd_849 : Cond.code yX6_countOf cX6_countOf 1 (some .int) ∈ am_big := in_big 799 rfl rfl
set_option maxRecDepth 100000 in
theorem wd_850 : Cond.code yX6_endLaw cX6_endLaw 2 none ∈ am_big := in_big 770 rfl rfl
set_option maxRecDepth 100000 in
theorem wd_851 : Cond.code yX6_isTimed cX6_isTimed 2 (some .boolean) ∈ am_big := in_big 947 rfl rfl
set_option maxRecDepth 100000 in
theorem wd_852 : Cond.code yX6_lawValue cX6_lawValue 9 (some .int) ∈ am_big := in_big 924 rfl rfl
set_option maxRecDepth 100000 in
theorem wd_853 : Cond.code yX6_joined cX6_joined 3 (some .int) ∈ am_big := in_big 930 rfl rfl
set_option maxRecDepth 100000 in
theorem wd_854 : Cond.code yX7_init cX7_init 2 none ∈ am_big := in_big 318 rfl rfl
set_option maxRecDepth 100000 in
theorem wd_855 : Cond.code yX7_start cX7_start 2 none ∈ am_big := in_big 825 rfl rfl
set_option maxRecDepth 100000 in
theorem wd_856 : Cond.code yX7_take cX7_take 3 none ∈ am_big := in_big 1181 rfl rfl
set_option maxRecDepth 100000 in
theorem wd_857 : Cond.code yX7_addTold cX7_addTold 3 (some .boolean) ∈ am_big := in_big 1089 rfl rfl
set_option maxRecDepth 100000 in
theorem wd_858 : Cond.code yX7_isTold cX7_isTold 3 (some .boolean) ∈ am_big := in_big 1108 rfl rfl
set_option maxRecDepth 100000 in
theorem wd_859 : Cond.code yX8_init cX8_init 1 none ∈ am_big := in_big 258 rfl rfl
set_option maxRecDepth 100000 in
theorem wd_860 : Cond.code yX8_append cX8_append 6 none ∈ am_big := in_big 558 rfl rfl
set_option maxRecDepth 100000 in
theorem wd_861 : Cond.code yX8_cut cX8_cut 4 none ∈ am_big := in_big 566 rfl rfl
set_option maxRecDepth 100000 in
theorem wd_862 : Cond.code yX8_add cX8_add 3 none ∈ am_big := in_big 638 rfl rfl
set_option maxRecDepth 100000 in
theorem wd_863 : Cond.code yX8_signAt cX8_signAt 2 (some .char) ∈ am_big := in_big 570 rfl rfl
set_option maxRecDepth 100000 in
theorem wd_864 : Cond.code yX8_isLetter cX8_isLetter 1 (some .boolean) ∈ am_big := in_big 573 rfl rfl
set_option maxRecDepth 100000 in
theorem wd_865 : Cond.code yX8_isDigit cX8_isDigit 1 (some .boolean) ∈ am_big := in_big 644 rfl rfl
set_option maxRecDepth 100000 in
theorem wd_866 : Cond.code yX8_endOfWord cX8_endOfWord 3 (some .int) ∈ am_big := in_big 577 rfl rfl
set_option maxRecDepth 100000 in
theorem wd_867 : Cond.code yX8_endOfNumber cX8_endOfNumber 3 (some .int) ∈ am_big := in_big 648 rfl rfl
set_option maxRecDepth 100000 in
theorem wd_868 : Cond.code yX8_wordKind cX8_wordKind 4 (some .int) ∈ am_big := in_big 581 rfl rfl
set_option maxRecDepth 100000 in
theorem wd_869 : Cond.code yX8_isWord cX8_isWord 7 (some .boolean) ∈ am_big := in_big 596 rfl rfl
set_option maxRecDepth 100000 in
theorem wd_870 : Cond.code yX8_nameKey cX8_nameKey 6 (some .long) ∈ am_big := in_big 783 rfl rfl
set_option maxRecDepth 100000 in
theorem wd_871 : Cond.code yX8_numberValue cX8_numberValue 5 (some .int) ∈ am_big := in_big 739 rfl rfl
set_option maxRecDepth 100000 in
theorem wd_872 : Cond.code yX9_init cX9_init 3 none ∈ am_big := in_big 119 rfl rfl
set_option maxRecDepth 100000 in
theorem wd_874 : Cond.code yX9_feed cX9_feed 7 (some .int) ∈ am_big := in_big 554 rfl rfl
set_option maxRecDepth 100000 in
theorem wd_875 : Cond.code yX9_river cX9_river 2 (some .int) ∈ am_big := in_big 562 rfl rfl
set_option maxRecDepth 100000 in
theorem wd_876 : Cond.code yX9_person cX9_person 4 (some .int) ∈ am_big := in_big 834 rfl rfl
set_option maxRecDepth 100000 in
theorem wd_877 : Cond.code yX9_use cX9_use 2 (some .boolean) ∈ am_big := in_big 843 rfl rfl
set_option maxRecDepth 100000 in
theorem wd_878 : Cond.code yX9_rings cX9_rings 1 (some .int) ∈ am_big := in_big 847 rfl rfl
set_option maxRecDepth 100000 in
theorem wd_879 : Cond.code yX9_ring cX9_ring 3 (some .int) ∈ am_big := in_big 955 rfl rfl
set_option maxRecDepth 100000 in
theorem wd_880 : Cond.code yX9_waits cX9_waits 3 (some .int) ∈ am_big := in_big 959 rfl rfl
set_option maxRecDepth 100000 in
theorem wd_881 : Cond.code yX9_all cX9_all 2 (some .int) ∈ am_big := in_big 967 rfl rfl
set_option maxRecDepth 100000 in
theorem wd_882 : Cond.code yX9_bank cX9_bank 4 (some .int) ∈ am_big := in_big 988 rfl rfl
set_option maxRecDepth 100000 in
theorem wd_883 : Cond.code yX9_send cX9_send 5 (some .int) ∈ am_big := in_big 1011 rfl rfl
set_option maxRecDepth 100000 in
theorem wd_884 : Cond.code yX9_turn cX9_turn 3 (some .int) ∈ am_big := in_big 1193 rfl rfl
set_option maxRecDepth 100000 in
theorem wd_885 : Cond.code yX9_asks cX9_asks 6 (some .int) ∈ am_big := in_big 1025 rfl rfl
set_option maxRecDepth 100000 in
theorem wd_886 : Cond.code yX9_choice cX9_choice 2 (some .int) ∈ am_big := in_big 1041 rfl rfl
set_option maxRecDepth 100000 in
theorem wd_887 : Cond.code yX9_chosen cX9_chosen 3 (some .int) ∈ am_big := in_big 1072 rfl rfl
set_option maxRecDepth 100000 in
theorem wd_888 : Cond.code yX9_rests cX9_rests 1 (some .int) ∈ am_big := in_big 1077 rfl rfl
set_option maxRecDepth 100000 in
theorem wd_889 : Cond.code yX9_rest cX9_rest 2 (some .int) ∈ am_big := in_big 1081 rfl rfl
set_option maxRecDepth 100000 in
theorem wd_890 : Cond.code yX9_tell cX9_tell 2 (some .int) ∈ am_big := in_big 1085 rfl rfl
set_option maxRecDepth 100000 in
theorem wd_891 : Cond.code yX9_clear cX9_clear 1 (some .boolean) ∈ am_big := in_big 1096 rfl rfl
set_option maxRecDepth 100000 in
theorem wd_892 : Cond.code yX9_judged cX9_judged 3 (some .int) ∈ am_big := in_big 1100 rfl rfl
set_option maxRecDepth 100000 in
theorem wd_893 : Cond.code yX9_likely cX9_likely 7 (some .long) ∈ am_big := in_big 1112 rfl rfl
set_option maxRecDepth 100000 in
theorem wd_894 : Cond.code yX9_mean cX9_mean 7 (some .long) ∈ am_big := in_big 1131 rfl rfl
set_option maxRecDepth 100000 in
theorem wd_895 : Cond.code yX9_came cX9_came 2 (some .long) ∈ am_big := in_big 1135 rfl rfl
set_option maxRecDepth 100000 in
theorem wd_896 : Cond.code yX9_lots cX9_lots 4 (some .int) ∈ am_big := in_big 1139 rfl rfl
set_option maxRecDepth 100000 in
theorem wd_897 : Cond.code yX9_best cX9_best 5 (some .int) ∈ am_big := in_big 1173 rfl rfl
set_option maxRecDepth 100000 in
theorem wd_898 : Cond.code yX9_mark cX9_mark 3 (some .boolean) ∈ am_big := in_big 1177 rfl rfl
set_option maxRecDepth 100000 in
theorem wd_899 : Cond.code yX9_count cX9_count 3 (some .int) ∈ am_big := in_big 1185 rfl rfl
set_option maxRecDepth 100000 in
theorem wd_900 : Cond.code yX9_get cX9_get 2 (some .int) ∈ am_big := in_big 742 rfl rfl
set_option maxRecDepth 100000 in
theorem wd_901 : Cond.code yX9_set cX9_set 3 none ∈ am_big := in_big 641 rfl rfl
set_option maxRecDepth 100000 in
theorem wd_902 : Cond.code yX9_isMinute cX9_isMinute 1 (some .boolean) ∈ am_big := in_big 991 rfl rfl
set_option maxRecDepth 100000 in
theorem wd_903 : Cond.code yX9_isPerson cX9_isPerson 2 (some .boolean) ∈ am_big := in_big 838 rfl rfl
set_option maxRecDepth 100000 in
theorem wd_904 : Cond.code yX9_forget cX9_forget 1 none ∈ am_big := in_big 829 rfl rfl
set_option maxRecDepth 100000 in
theorem wd_905 : Cond.code yX9_knowDay cX9_knowDay 2 none ∈ am_big := in_big 851 rfl rfl
set_option maxRecDepth 100000 in
theorem wd_906 : Cond.code yX9_beginTrial cX9_beginTrial 3 none ∈ am_big := in_big 1015 rfl rfl
set_option maxRecDepth 100000 in
theorem wd_907 : Cond.code yX9_nightBits cX9_nightBits 3 (some .int) ∈ am_big := in_big 984 rfl rfl
set_option maxRecDepth 100000 in
theorem wd_908 : Cond.code yX9_waitsAt cX9_waitsAt 4 (some .boolean) ∈ am_big := in_big 999 rfl rfl
set_option maxRecDepth 100000 in
theorem wd_909 : Cond.code yX9_heads cX9_heads 5 (some .int) ∈ am_big := in_big 995 rfl rfl
set_option maxRecDepth 100000 in
theorem wd_910 : Cond.code yX9_together cX9_together 6 (some .int) ∈ am_big := in_big 1007 rfl rfl
set_option maxRecDepth 100000 in
theorem wd_911 : Cond.code yX9_mayTurn cX9_mayTurn 3 (some .boolean) ∈ am_big := in_big 1029 rfl rfl
set_option maxRecDepth 100000 in
theorem wd_912 : Cond.code yX9_gainByTurning cX9_gainByTurning 3 (some .int) ∈ am_big := in_big 1033 rfl rfl
set_option maxRecDepth 100000 in
theorem wd_913 : Cond.code yX9_levels cX9_levels 14 (some .long) ∈ am_big := in_big 1117 rfl rfl
set_option maxRecDepth 100000 in
theorem wd_914 : Cond.code yX9_orders cX9_orders 4 (some .long) ∈ am_big := in_big 1120 rfl rfl
set_option maxRecDepth 100000 in
theorem wd_915 : Cond.code yX9_power cX9_power 6 (some .long) ∈ am_big := in_big 1124 rfl rfl
set_option maxRecDepth 100000 in
theorem wd_916 : Cond.code yX9_lowest cX9_lowest 13 (some .long) ∈ am_big := in_big 1127 rfl rfl
set_option maxRecDepth 100000 in
theorem wd_917 : Cond.code yX10_init cX10_init 1 none ∈ am_big := in_big 1263 rfl rfl
set_option maxRecDepth 100000 in
theorem wd_919 : Cond.code yX10_thrown cX10_thrown 1 (some .int) ∈ am_big := in_big 1439 rfl rfl
set_option maxRecDepth 100000 in
theorem wd_920 : Cond.code yX10_within cX10_within 3 (some .boolean) ∈ am_big := in_big 1482 rfl rfl
set_option maxRecDepth 100000 in
theorem wd_921 : Cond.code yX10_gcd cX10_gcd 10 (some .long) ∈ am_big := in_big 1746 rfl rfl
set_option maxRecDepth 100000 in
theorem wd_922 : Cond.code yX10_feed cX10_feed 11 (some .int) ∈ am_big := in_big 1443 rfl rfl
set_option maxRecDepth 100000 in
theorem wd_923 : Cond.code yX10_signAt cX10_signAt 2 (some .int) ∈ am_big := in_big 1460 rfl rfl
set_option maxRecDepth 100000 in
theorem wd_924 : Cond.code yX10_nextToken cX10_nextToken 2 none ∈ am_big := in_big 1456 rfl rfl
set_option maxRecDepth 100000 in
theorem wd_925 : Cond.code yX10_isWord cX10_isWord 3 (some .boolean) ∈ am_big := in_big 1467 rfl rfl
set_option maxRecDepth 100000 in
theorem wd_926 : Cond.code yX10_isSign cX10_isSign 2 (some .boolean) ∈ am_big := in_big 1490 rfl rfl
set_option maxRecDepth 100000 in
theorem wd_927 : Cond.code yX10_fails cX10_fails 2 (some .boolean) ∈ am_big := in_big 1475 rfl rfl
set_option maxRecDepth 100000 in
theorem wd_928 : Cond.code yX10_starts0 cX10_starts0 2 none ∈ am_big := in_big 1268 rfl rfl
set_option maxRecDepth 100000 in
theorem wd_929 : Cond.code yX10_puts cX10_puts 2 none ∈ am_big := in_big 1528 rfl rfl
set_option maxRecDepth 100000 in
theorem wd_930 : Cond.code yX10_fact cX10_fact 1 (some .int) ∈ am_big := in_big 1517 rfl rfl
set_option maxRecDepth 100000 in
theorem wd_931 : Cond.code yX10_reads cX10_reads 6 (some .boolean) ∈ am_big := in_big 1513 rfl rfl
set_option maxRecDepth 100000 in
theorem wd_932 : Cond.code yX10_opens cX10_opens 2 none ∈ am_big := in_big 1619 rfl rfl
set_option maxRecDepth 100000 in
theorem wd_933 : Cond.code yX10_sums cX10_sums 2 none ∈ am_big := in_big 1623 rfl rfl
set_option maxRecDepth 100000 in
theorem wd_934 : Cond.code yX10_tests cX10_tests 3 none ∈ am_big := in_big 1627 rfl rfl
set_option maxRecDepth 100000 in
theorem wd_935 : Cond.code yX10_worked cX10_worked 6 (some .int) ∈ am_big := in_big 1615 rfl rfl
set_option maxRecDepth 100000 in
theorem wd_936 : Cond.code yX10_isKept cX10_isKept 1 (some .boolean) ∈ am_big := in_big 1539 rfl rfl
set_option maxRecDepth 100000 in
theorem wd_937 : Cond.code yX10_needsNumber cX10_needsNumber 3 (some .boolean) ∈ am_big := in_big 1479 rfl rfl
set_option maxRecDepth 100000 in
theorem wd_938 : Cond.code yX10_needsWord cX10_needsWord 3 (some .boolean) ∈ am_big := in_big 1502 rfl rfl
set_option maxRecDepth 100000 in
theorem wd_939 : Cond.code yX10_ends cX10_ends 1 (some .boolean) ∈ am_big := in_big 1486 rfl rfl
set_option maxRecDepth 100000 in
theorem wd_940 : Cond.code yX10_readsOne cX10_readsOne 4 (some .boolean) ∈ am_big := in_big 1471 rfl rfl
set_option maxRecDepth 100000 in
theorem wd_941 : Cond.code yX10_readsSide cX10_readsSide 1 (some .boolean) ∈ am_big := in_big 1497 rfl rfl
set_option maxRecDepth 100000 in
theorem wd_942 : Cond.code yX10_readsLaw cX10_readsLaw 2 (some .boolean) ∈ am_big := in_big 1509 rfl rfl
set_option maxRecDepth 100000 in
theorem wd_943 : Cond.code yX10_kindAt cX10_kindAt 1 (some .int) ∈ am_big := in_big 1552 rfl rfl
set_option maxRecDepth 100000 in
theorem wd_944 : Cond.code yX10_choosers cX10_choosers 4 (some .int) ∈ am_big := in_big 1556 rfl rfl
set_option maxRecDepth 100000 in
theorem wd_945 : Cond.code yX10_readsPerson cX10_readsPerson 4 (some .boolean) ∈ am_big := in_big 1535 rfl rfl
set_option maxRecDepth 100000 in
theorem wd_946 : Cond.code yX10_readsAll cX10_readsAll 2 (some .boolean) ∈ am_big := in_big 1452 rfl rfl
set_option maxRecDepth 100000 in
theorem wd_947 : Cond.code yX10_moves cX10_moves 5 none ∈ am_big := in_big 1563 rfl rfl
set_option maxRecDepth 100000 in
theorem wd_948 : Cond.code yX10_lays cX10_lays 4 none ∈ am_big := in_big 1560 rfl rfl
set_option maxRecDepth 100000 in
theorem wd_949 : Cond.code yX10_river cX10_river 1 (some .int) ∈ am_big := in_big 1448 rfl rfl
set_option maxRecDepth 100000 in
theorem wd_950 : Cond.code yX10_isPerson cX10_isPerson 2 (some .boolean) ∈ am_big := in_big 1571 rfl rfl
set_option maxRecDepth 100000 in
theorem wd_951 : Cond.code yX10_isMinute cX10_isMinute 1 (some .boolean) ∈ am_big := in_big 1666 rfl rfl
set_option maxRecDepth 100000 in
theorem wd_952 : Cond.code yX10_countOf cX10_countOf 1 (some .int) ∈ am_big := in_big 1574 rfl rfl
set_option maxRecDepth 100000 in
theorem wd_953 : Cond.code yX10_person cX10_person 3 (some .int) ∈ am_big := in_big 1567 rfl rfl
set_option maxRecDepth 100000 in
theorem wd_954 : Cond.code yX10_use cX10_use 2 (some .boolean) ∈ am_big := in_big 1578 rfl rfl
set_option maxRecDepth 100000 in
theorem wd_955 : Cond.code yX10_joins cX10_joins 6 none ∈ am_big := in_big 1599 rfl rfl
set_option maxRecDepth 100000 in
theorem wd_956 : Cond.code yX10_dawns cX10_dawns 1 none ∈ am_big := in_big 1594 rfl rfl
set_option maxRecDepth 100000 in
theorem wd_957 : Cond.code yX10_tellsAll cX10_tellsAll 5 none ∈ am_big := in_big 1590 rfl rfl
set_option maxRecDepth 100000 in
theorem wd_958 : Cond.code yX10_isWaiting cX10_isWaiting 3 (some .boolean) ∈ am_big := in_big 1611 rfl rfl
set_option maxRecDepth 100000 in
theorem wd_959 : Cond.code yX10_wouldRing cX10_wouldRing 4 (some .boolean) ∈ am_big := in_big 1607 rfl rfl
set_option maxRecDepth 100000 in
theorem wd_960 : Cond.code yX10_firstOf cX10_firstOf 5 (some .int) ∈ am_big := in_big 1639 rfl rfl
set_option maxRecDepth 100000 in
theorem wd_961 : Cond.code yX10_leaves cX10_leaves 5 (some .int) ∈ am_big := in_big 1635 rfl rfl
set_option maxRecDepth 100000 in
theorem wd_962 : Cond.code yX10_ringsOnce cX10_ringsOnce 2 none ∈ am_big := in_big 1631 rfl rfl
set_option maxRecDepth 100000 in
theorem wd_963 : Cond.code yX10_goesOn cX10_goesOn 4 none ∈ am_big := in_big 1603 rfl rfl
set_option maxRecDepth 100000 in
theorem wd_964 : Cond.code yX10_day cX10_day 2 none ∈ am_big := in_big 1586 rfl rfl
set_option maxRecDepth 100000 in
theorem wd_965 : Cond.code yX10_waitOf cX10_waitOf 2 (some .int) ∈ am_big := in_big 1651 rfl rfl
set_option maxRecDepth 100000 in
theorem wd_966 : Cond.code yX10_costAll cX10_costAll 4 (some .int) ∈ am_big := in_big 1659 rfl rfl
set_option maxRecDepth 100000 in
theorem wd_967 : Cond.code yX10_rings cX10_rings 1 (some .int) ∈ am_big := in_big 1582 rfl rfl
set_option maxRecDepth 100000 in
theorem wd_968 : Cond.code yX10_ring cX10_ring 3 (some .int) ∈ am_big := in_big 1643 rfl rfl
set_option maxRecDepth 100000 in
theorem wd_969 : Cond.code yX10_waits cX10_waits 3 (some .int) ∈ am_big := in_big 1647 rfl rfl
set_option maxRecDepth 100000 in
theorem wd_970 : Cond.code yX10_all cX10_all 5 (some .int) ∈ am_big := in_big 1655 rfl rfl
set_option maxRecDepth 100000 in
theorem wd_971 : Cond.code yX10_waitsBehind cX10_waitsBehind 3 (some .boolean) ∈ am_big := in_big 1670 rfl rfl
set_option maxRecDepth 100000 in
theorem wd_972 : Cond.code yX10_bank cX10_bank 6 (some .int) ∈ am_big := in_big 1663 rfl rfl
set_option maxRecDepth 100000 in
theorem wd_973 : Cond.code yX10_ringsBy cX10_ringsBy 6 (some .boolean) ∈ am_big := in_big 1678 rfl rfl
set_option maxRecDepth 100000 in
theorem wd_974 : Cond.code yX10_send cX10_send 5 (some .int) ∈ am_big := in_big 1674 rfl rfl
set_option maxRecDepth 100000 in
theorem wd_975 : Cond.code yX10_canTurn cX10_canTurn 3 (some .boolean) ∈ am_big := in_big 1686 rfl rfl
set_option maxRecDepth 100000 in
theorem wd_976 : Cond.code yX10_turns cX10_turns 4 (some .int) ∈ am_big := in_big 1690 rfl rfl
set_option maxRecDepth 100000 in
theorem wd_977 : Cond.code yX10_turn cX10_turn 3 (some .int) ∈ am_big := in_big 1682 rfl rfl
set_option maxRecDepth 100000 in
theorem wd_978 : Cond.code yX10_asks cX10_asks 6 (some .int) ∈ am_big := in_big 1694 rfl rfl
set_option maxRecDepth 100000 in
theorem wd_979 : Cond.code yX10_choices cX10_choices 5 (some .int) ∈ am_big := in_big 1702 rfl rfl
set_option maxRecDepth 100000 in
theorem wd_980 : Cond.code yX10_choice cX10_choice 5 (some .int) ∈ am_big := in_big 1698 rfl rfl
set_option maxRecDepth 100000 in
theorem wd_981 : Cond.code yX10_chosen cX10_chosen 2 (some .int) ∈ am_big := in_big 1706 rfl rfl
set_option maxRecDepth 100000 in
theorem wd_982 : Cond.code yX10_isRest cX10_isRest 3 (some .boolean) ∈ am_big := in_big 1714 rfl rfl
set_option maxRecDepth 100000 in
theorem wd_983 : Cond.code yX10_rests cX10_rests 4 (some .int) ∈ am_big := in_big 1710 rfl rfl
set_option maxRecDepth 100000 in
theorem wd_984 : Cond.code yX10_rest cX10_rest 5 (some .int) ∈ am_big := in_big 1718 rfl rfl
set_option maxRecDepth 100000 in
theorem wd_985 : Cond.code yX10_tell cX10_tell 3 (some .int) ∈ am_big := in_big 1722 rfl rfl
set_option maxRecDepth 100000 in
theorem wd_986 : Cond.code yX10_clear cX10_clear 1 (some .boolean) ∈ am_big := in_big 1726 rfl rfl
set_option maxRecDepth 100000 in
theorem wd_987 : Cond.code yX10_judged cX10_judged 5 (some .int) ∈ am_big := in_big 1730 rfl rfl
set_option maxRecDepth 100000 in
theorem wd_988 : Cond.code yX10_firsts cX10_firsts 4 (some .long) ∈ am_big := in_big 1742 rfl rfl
set_option maxRecDepth 100000 in
theorem wd_989 : Cond.code yX10_chance cX10_chance 5 (some .long) ∈ am_big := in_big 1739 rfl rfl
set_option maxRecDepth 100000 in
theorem wd_990 : Cond.code yX10_likely cX10_likely 8 (some .long) ∈ am_big := in_big 1734 rfl rfl
set_option maxRecDepth 100000 in
theorem wd_991 : Cond.code yX10_mean cX10_mean 8 (some .long) ∈ am_big := in_big 1750 rfl rfl
set_option maxRecDepth 100000 in
theorem wd_992 : Cond.code yX10_came cX10_came 2 (some .long) ∈ am_big := in_big 1754 rfl rfl
set_option maxRecDepth 100000 in
theorem wd_993 : Cond.code yX10_draws cX10_draws 2 (some .int) ∈ am_big := in_big 1762 rfl rfl
set_option maxRecDepth 100000 in
theorem wd_994 : Cond.code yX10_lots cX10_lots 11 (some .int) ∈ am_big := in_big 1758 rfl rfl
set_option maxRecDepth 100000 in
theorem wd_995 : Cond.code yX10_best cX10_best 6 (some .int) ∈ am_big := in_big 1770 rfl rfl
set_option maxRecDepth 100000 in
theorem wd_996 : Cond.code yX10_mark cX10_mark 3 (some .boolean) ∈ am_big := in_big 1774 rfl rfl
set_option maxRecDepth 100000 in
theorem wd_997 : Cond.code yX10_count cX10_count 2 (some .int) ∈ am_big := in_big 1778 rfl rfl
def wl0 : List Cond := [Cond.constantLong "EvenFerry" 327 2, Cond.methodLink "EvenFerry$Bank" 3 Lib.objectInit, Cond.instanceMethod Lib.objectInit, Cond.methodLink "EvenFerry$Bank" 9 Lib.Math.max.name, Cond.static Lib.Math.max.name, Cond.initialized "java/lang/Math", Cond.fieldLink "EvenFerry$Bank" 15 "EvenFerry$Bank" "row" "[I", Cond.arrayClass .int, Cond.fieldLink "EvenFerry$Bank" 21 "EvenFerry$Bank" "head" "I", Cond.fieldLink "EvenFerry$Bank" 25 "EvenFerry$Bank" "tail" "I", Cond.fieldLink "EvenFerry$Bank" 28 "EvenFerry$Bank" "counts" "I", Cond.fieldLink "EvenFerry$Bank" 31 "EvenFerry$Bank" "load" "I", Cond.fieldLink "EvenFerry$Bank" 34 "EvenFerry$Bank" "guests" "I", Cond.static yX9_set, Cond.fieldLink "EvenFerry$Bank" 41 "EvenFerry$Crowd" "counts" "[I", Cond.static yX9_get, Cond.fieldLink "EvenFerry$Bank" 49 "EvenFerry$Crowd" "weights" "[I", Cond.instanceMethod yX0_leaveFirst, Cond.selects "EvenFerry$Bank" yX0_leaveFirst yX0_leaveFirst, Cond.methodLink "EvenFerry$Bank" 52 yX0_leaveFirst, Cond.methodLink "EvenFerry$Crowd" 1 Lib.objectInit, Cond.methodLink "EvenFerry$Crowd" 7 Lib.Math.max.name, Cond.fieldLink "EvenFerry$Crowd" 13 "EvenFerry$Crowd" "times" "[I", Cond.fieldLink "EvenFerry$Crowd" 19 "EvenFerry$Crowd" "sides" "[I", Cond.fieldLink "EvenFerry$Crowd" 22 "EvenFerry$Crowd" "weights" "[I", Cond.fieldLink "EvenFerry$Crowd" 25 "EvenFerry$Crowd" "counts" "[I", Cond.fieldLink "EvenFerry$Crowd" 28 "EvenFerry$Crowd" "order" "[I", Cond.fieldLink "EvenFerry$Crowd" 31 "EvenFerry$Crowd" "size" "I", Cond.methodLink "EvenFerry$State" 3 Lib.objectInit, Cond.fieldLink "EvenFerry$State" 9 "EvenFerry$State" "told" "[I", Cond.fieldLink "EvenFerry$State" 15 "EvenFerry$State" "law" "I", Cond.fieldLink "EvenFerry$State" 19 "EvenFerry$State" "river" "LEvenFerry$River;", Cond.fieldLink "EvenFerry$State" 23 "EvenFerry$River" "laws" "I", Cond.fieldLink "EvenFerry$State" 28 "EvenFerry$State" "tolds" "I", Cond.static yX9_isMinute, Cond.methodLink "EvenFerry$River" 3 Lib.objectInit, Cond.methodLink "EvenFerry$River" 11 yX2_init, Cond.instanceMethod yX2_init, Cond.fieldLink "EvenFerry$River" 14 "EvenFerry$River" "people" "LEvenFerry$Crowd;", Cond.fieldLink "EvenFerry$River" 20 "EvenFerry$River" "costs" "[I", Cond.fieldLink "EvenFerry$River" 24 "EvenFerry$River" "kinds" "[I", Cond.fieldLink "EvenFerry$River" 27 "EvenFerry$River" "chooserPersons" "[I", Cond.fieldLink "EvenFerry$River" 30 "EvenFerry$River" "lawStarts" "[I", Cond.fieldLink "EvenFerry$River" 33 "EvenFerry$River" "code" "[I", Cond.fieldLink "EvenFerry$River" 36 "EvenFerry$River" "room" "I", Cond.fieldLink "EvenFerry$River" 40 "EvenFerry$River" "trip" "I", Cond.fieldLink "EvenFerry$River" 43 "EvenFerry$River" "boats" "I", Cond.fieldLink "EvenFerry$River" 46 "EvenFerry$River" "first" "I", Cond.fieldLink "EvenFerry$River" 49 "EvenFerry$River" "second" "I", Cond.fieldLink "EvenFerry$River" 52 "EvenFerry$River" "come" "I", Cond.classLink "EvenFerry$River" 9 "EvenFerry$Crowd", Cond.instantiable "EvenFerry$Crowd" 6, Cond.initialized "EvenFerry$Crowd", Cond.fieldLink "EvenFerry$River" 55 "EvenFerry$Crowd" "size" "I", Cond.methodLink "EvenFerry$River" 62 yX6_countOf, Cond.static yX6_countOf, Cond.instanceMethod yX2_add, Cond.selects "EvenFerry$Crowd" yX2_add yX2_add, Cond.methodLink "EvenFerry$River" 66 yX2_add, Cond.fieldLink "EvenFerry$River" 70 "EvenFerry$River" "choosers" "I"]
set_option maxRecDepth 100000 in
theorem wl0_e : wl0 = [1121, 357, 121, 358, 136, 95, 359, 174, 361, 363, 365, 366, 367, 640, 150, 741, 147, 872, 873, 871, 134, 135, 138, 141, 146, 149, 152, 154, 319, 320, 326, 322, 217, 330, 990, 128, 131, 132, 175, 180, 183, 185, 187, 188, 190, 194, 198, 202, 206, 210, 129, 130, 94, 155, 797, 798, 801, 802, 800, 214].filterMap (fun i => lw_tbl[i]?) := by decide +kernel
set_option maxRecDepth 100000 in
theorem wl0_g : wl0.all goodWord = true := by decide +kernel
theorem wl0_m {x : Cond} (i : Nat) (h : wl0[i]? = some x) : x ∈ am_big := am_wl wl0_e wl0_g (List.mem_of_getElem? h)
theorem wd_0 : Cond.constantLong "EvenFerry" 327 2 ∈ am_big := wl0_m 0 rfl
theorem wd_1 : Cond.methodLink "EvenFerry$Bank" 3 Lib.objectInit ∈ am_big := wl0_m 1 rfl
theorem wd_2 : Cond.instanceMethod Lib.objectInit ∈ am_big := wl0_m 2 rfl
theorem wd_4 : Cond.methodLink "EvenFerry$Bank" 9 Lib.Math.max.name ∈ am_big := wl0_m 3 rfl
theorem wd_5 : Cond.static Lib.Math.max.name ∈ am_big := wl0_m 4 rfl
theorem wd_6 : Cond.initialized "java/lang/Math" ∈ am_big := wl0_m 5 rfl
theorem wd_8 : Cond.fieldLink "EvenFerry$Bank" 15 "EvenFerry$Bank" "row" "[I" ∈ am_big := wl0_m 6 rfl
theorem wd_9 : Cond.arrayClass .int ∈ am_big := wl0_m 7 rfl
theorem wd_10 : Cond.fieldLink "EvenFerry$Bank" 21 "EvenFerry$Bank" "head" "I" ∈ am_big := wl0_m 8 rfl
theorem wd_11 : Cond.fieldLink "EvenFerry$Bank" 25 "EvenFerry$Bank" "tail" "I" ∈ am_big := wl0_m 9 rfl
theorem wd_12 : Cond.fieldLink "EvenFerry$Bank" 28 "EvenFerry$Bank" "counts" "I" ∈ am_big := wl0_m 10 rfl
theorem wd_13 : Cond.fieldLink "EvenFerry$Bank" 31 "EvenFerry$Bank" "load" "I" ∈ am_big := wl0_m 11 rfl
theorem wd_14 : Cond.fieldLink "EvenFerry$Bank" 34 "EvenFerry$Bank" "guests" "I" ∈ am_big := wl0_m 12 rfl
theorem wd_16 : Cond.static yX9_set ∈ am_big := wl0_m 13 rfl
theorem wd_17 : Cond.fieldLink "EvenFerry$Bank" 41 "EvenFerry$Crowd" "counts" "[I" ∈ am_big := wl0_m 14 rfl
theorem wd_19 : Cond.static yX9_get ∈ am_big := wl0_m 15 rfl
theorem wd_20 : Cond.fieldLink "EvenFerry$Bank" 49 "EvenFerry$Crowd" "weights" "[I" ∈ am_big := wl0_m 16 rfl
theorem wd_21 : Cond.instanceMethod yX0_leaveFirst ∈ am_big := wl0_m 17 rfl
theorem wd_22 : Cond.selects "EvenFerry$Bank" yX0_leaveFirst yX0_leaveFirst ∈ am_big := wl0_m 18 rfl
theorem wd_23 : Cond.methodLink "EvenFerry$Bank" 52 yX0_leaveFirst ∈ am_big := wl0_m 19 rfl
theorem wd_24 : Cond.methodLink "EvenFerry$Crowd" 1 Lib.objectInit ∈ am_big := wl0_m 20 rfl
theorem wd_25 : Cond.methodLink "EvenFerry$Crowd" 7 Lib.Math.max.name ∈ am_big := wl0_m 21 rfl
theorem wd_26 : Cond.fieldLink "EvenFerry$Crowd" 13 "EvenFerry$Crowd" "times" "[I" ∈ am_big := wl0_m 22 rfl
theorem wd_27 : Cond.fieldLink "EvenFerry$Crowd" 19 "EvenFerry$Crowd" "sides" "[I" ∈ am_big := wl0_m 23 rfl
theorem wd_28 : Cond.fieldLink "EvenFerry$Crowd" 22 "EvenFerry$Crowd" "weights" "[I" ∈ am_big := wl0_m 24 rfl
theorem wd_29 : Cond.fieldLink "EvenFerry$Crowd" 25 "EvenFerry$Crowd" "counts" "[I" ∈ am_big := wl0_m 25 rfl
theorem wd_30 : Cond.fieldLink "EvenFerry$Crowd" 28 "EvenFerry$Crowd" "order" "[I" ∈ am_big := wl0_m 26 rfl
theorem wd_31 : Cond.fieldLink "EvenFerry$Crowd" 31 "EvenFerry$Crowd" "size" "I" ∈ am_big := wl0_m 27 rfl
theorem wd_34 : Cond.methodLink "EvenFerry$State" 3 Lib.objectInit ∈ am_big := wl0_m 28 rfl
theorem wd_35 : Cond.fieldLink "EvenFerry$State" 9 "EvenFerry$State" "told" "[I" ∈ am_big := wl0_m 29 rfl
theorem wd_36 : Cond.fieldLink "EvenFerry$State" 15 "EvenFerry$State" "law" "I" ∈ am_big := wl0_m 30 rfl
theorem wd_37 : Cond.fieldLink "EvenFerry$State" 19 "EvenFerry$State" "river" "LEvenFerry$River;" ∈ am_big := wl0_m 31 rfl
theorem wd_38 : Cond.fieldLink "EvenFerry$State" 23 "EvenFerry$River" "laws" "I" ∈ am_big := wl0_m 32 rfl
theorem wd_39 : Cond.fieldLink "EvenFerry$State" 28 "EvenFerry$State" "tolds" "I" ∈ am_big := wl0_m 33 rfl
theorem wd_43 : Cond.static yX9_isMinute ∈ am_big := wl0_m 34 rfl
theorem wd_44 : Cond.methodLink "EvenFerry$River" 3 Lib.objectInit ∈ am_big := wl0_m 35 rfl
theorem wd_45 : Cond.methodLink "EvenFerry$River" 11 yX2_init ∈ am_big := wl0_m 36 rfl
theorem wd_46 : Cond.instanceMethod yX2_init ∈ am_big := wl0_m 37 rfl
theorem wd_47 : Cond.fieldLink "EvenFerry$River" 14 "EvenFerry$River" "people" "LEvenFerry$Crowd;" ∈ am_big := wl0_m 38 rfl
theorem wd_48 : Cond.fieldLink "EvenFerry$River" 20 "EvenFerry$River" "costs" "[I" ∈ am_big := wl0_m 39 rfl
theorem wd_49 : Cond.fieldLink "EvenFerry$River" 24 "EvenFerry$River" "kinds" "[I" ∈ am_big := wl0_m 40 rfl
theorem wd_50 : Cond.fieldLink "EvenFerry$River" 27 "EvenFerry$River" "chooserPersons" "[I" ∈ am_big := wl0_m 41 rfl
theorem wd_51 : Cond.fieldLink "EvenFerry$River" 30 "EvenFerry$River" "lawStarts" "[I" ∈ am_big := wl0_m 42 rfl
theorem wd_52 : Cond.fieldLink "EvenFerry$River" 33 "EvenFerry$River" "code" "[I" ∈ am_big := wl0_m 43 rfl
theorem wd_53 : Cond.fieldLink "EvenFerry$River" 36 "EvenFerry$River" "room" "I" ∈ am_big := wl0_m 44 rfl
theorem wd_54 : Cond.fieldLink "EvenFerry$River" 40 "EvenFerry$River" "trip" "I" ∈ am_big := wl0_m 45 rfl
theorem wd_55 : Cond.fieldLink "EvenFerry$River" 43 "EvenFerry$River" "boats" "I" ∈ am_big := wl0_m 46 rfl
theorem wd_56 : Cond.fieldLink "EvenFerry$River" 46 "EvenFerry$River" "first" "I" ∈ am_big := wl0_m 47 rfl
theorem wd_57 : Cond.fieldLink "EvenFerry$River" 49 "EvenFerry$River" "second" "I" ∈ am_big := wl0_m 48 rfl
theorem wd_58 : Cond.fieldLink "EvenFerry$River" 52 "EvenFerry$River" "come" "I" ∈ am_big := wl0_m 49 rfl
theorem wd_59 : Cond.classLink "EvenFerry$River" 9 "EvenFerry$Crowd" ∈ am_big := wl0_m 50 rfl
theorem wd_60 : Cond.instantiable "EvenFerry$Crowd" 6 ∈ am_big := wl0_m 51 rfl
theorem wd_61 : Cond.initialized "EvenFerry$Crowd" ∈ am_big := wl0_m 52 rfl
theorem wd_62 : Cond.fieldLink "EvenFerry$River" 55 "EvenFerry$Crowd" "size" "I" ∈ am_big := wl0_m 53 rfl
theorem wd_64 : Cond.methodLink "EvenFerry$River" 62 yX6_countOf ∈ am_big := wl0_m 54 rfl
theorem wd_65 : Cond.static yX6_countOf ∈ am_big := wl0_m 55 rfl
theorem wd_66 : Cond.instanceMethod yX2_add ∈ am_big := wl0_m 56 rfl
theorem wd_67 : Cond.selects "EvenFerry$Crowd" yX2_add yX2_add ∈ am_big := wl0_m 57 rfl
theorem wd_68 : Cond.methodLink "EvenFerry$River" 66 yX2_add ∈ am_big := wl0_m 58 rfl
theorem wd_69 : Cond.fieldLink "EvenFerry$River" 70 "EvenFerry$River" "choosers" "I" ∈ am_big := wl0_m 59 rfl
def wl1 : List Cond := [Cond.fieldLink "EvenFerry$River" 73 "EvenFerry$River" "laws" "I", Cond.fieldLink "EvenFerry$River" 76 "EvenFerry$River" "timedLaws" "I", Cond.methodLink "EvenFerry$River" 83 Lib.Math.min.name, Cond.static Lib.Math.min.name, Cond.methodLink "EvenFerry$River" 89 Lib.Math.max.name, Cond.methodLink "EvenFerry$River" 92 yX6_joined, Cond.static yX6_joined, Cond.methodLink "EvenFerry$Tape" 3 Lib.objectInit, Cond.fieldLink "EvenFerry$Tape" 9 "EvenFerry$Tape" "signs" "[C", Cond.fieldLink "EvenFerry$Tape" 15 "EvenFerry$Tape" "kinds" "[I", Cond.fieldLink "EvenFerry$Tape" 19 "EvenFerry$Tape" "places" "[I", Cond.arrayClass .char, Cond.fieldLink "EvenFerry$Tape" 22 "EvenFerry$Tape" "length" "I", Cond.fieldLink "EvenFerry$Tape" 26 "EvenFerry$Tape" "tokens" "I", Cond.instanceMethod yX8_signAt, Cond.selects "EvenFerry$Tape" yX8_signAt yX8_signAt, Cond.methodLink "EvenFerry$Tape" 29 yX8_signAt, Cond.methodLink "EvenFerry$Tape" 33 yX8_isLetter, Cond.static yX8_isLetter, Cond.methodLink "EvenFerry$Tape" 49 yX8_isDigit, Cond.static yX8_isDigit, Cond.constantLong "EvenFerry$Tape" 87 32, Cond.methodLink "EvenFerry$Parser" 3 Lib.objectInit, Cond.fieldLink "EvenFerry$Parser" 9 "EvenFerry$Parser" "names" "[J", Cond.fieldLink "EvenFerry$Parser" 15 "EvenFerry$Parser" "code" "[I", Cond.fieldLink "EvenFerry$Parser" 19 "EvenFerry$Parser" "tape" "LEvenFerry$Tape;", Cond.fieldLink "EvenFerry$Parser" 23 "EvenFerry$Parser" "river" "LEvenFerry$River;", Cond.arrayClass .long, Cond.fieldLink "EvenFerry$Parser" 31 "EvenFerry$Parser" "token" "I", Cond.fieldLink "EvenFerry$Parser" 65 "EvenFerry$Tape" "kinds" "[I", Cond.fieldLink "EvenFerry$Parser" 70 "EvenFerry$Tape" "tokens" "I", Cond.fieldLink "EvenFerry$Parser" 34 "EvenFerry$Parser" "fault" "I", Cond.fieldLink "EvenFerry$Parser" 73 "EvenFerry$Tape" "places" "[I", Cond.instanceMethod yX5_kind, Cond.selects "EvenFerry$Parser" yX5_kind yX5_kind, Cond.methodLink "EvenFerry$Parser" 40 yX5_kind, Cond.instanceMethod yX5_step, Cond.selects "EvenFerry$Parser" yX5_step yX5_step, Cond.methodLink "EvenFerry$Parser" 76 yX5_step, Cond.instanceMethod yX5_wrong, Cond.selects "EvenFerry$Parser" yX5_wrong yX5_wrong, Cond.methodLink "EvenFerry$Parser" 79 yX5_wrong, Cond.instanceMethod yX8_numberValue, Cond.selects "EvenFerry$Tape" yX8_numberValue yX8_numberValue, Cond.methodLink "EvenFerry$Parser" 83 yX8_numberValue, Cond.instanceMethod yX5_lineToldOnce, Cond.selects "EvenFerry$Parser" yX5_lineToldOnce yX5_lineToldOnce, Cond.methodLink "EvenFerry$Parser" 87 yX5_lineToldOnce, Cond.instanceMethod yX5_expect, Cond.selects "EvenFerry$Parser" yX5_expect yX5_expect, Cond.methodLink "EvenFerry$Parser" 96 yX5_expect, Cond.instanceMethod yX5_lawLine, Cond.selects "EvenFerry$Parser" yX5_lawLine yX5_lawLine, Cond.methodLink "EvenFerry$Parser" 90 yX5_lawLine, Cond.instanceMethod yX5_personLine, Cond.selects "EvenFerry$Parser" yX5_personLine yX5_personLine, Cond.methodLink "EvenFerry$Parser" 93 yX5_personLine, Cond.fieldLink "EvenFerry$Parser" 37 "EvenFerry$Parser" "toldOnce" "I", Cond.instanceMethod yX5_number, Cond.selects "EvenFerry$Parser" yX5_number yX5_number]
set_option maxRecDepth 100000 in
theorem wl1_e : wl1 = [218, 221, 926, 667, 927, 928, 929, 259, 260, 261, 263, 280, 266, 267, 569, 0, 567, 571, 572, 642, 643, 784, 286, 288, 289, 287, 290, 313, 293, 262, 268, 294, 264, 714, 6, 712, 730, 10, 728, 726, 9, 724, 737, 738, 736, 722, 8, 720, 745, 12, 743, 749, 13, 747, 774, 17, 772, 295, 734, 11].filterMap (fun i => lw_tbl[i]?) := by decide +kernel
set_option maxRecDepth 100000 in
theorem wl1_g : wl1.all goodWord = true := by decide +kernel
theorem wl1_m {x : Cond} (i : Nat) (h : wl1[i]? = some x) : x ∈ am_big := am_wl wl1_e wl1_g (List.mem_of_getElem? h)
theorem wd_70 : Cond.fieldLink "EvenFerry$River" 73 "EvenFerry$River" "laws" "I" ∈ am_big := wl1_m 0 rfl
theorem wd_71 : Cond.fieldLink "EvenFerry$River" 76 "EvenFerry$River" "timedLaws" "I" ∈ am_big := wl1_m 1 rfl
theorem wd_73 : Cond.methodLink "EvenFerry$River" 83 Lib.Math.min.name ∈ am_big := wl1_m 2 rfl
theorem wd_74 : Cond.static Lib.Math.min.name ∈ am_big := wl1_m 3 rfl
theorem wd_76 : Cond.methodLink "EvenFerry$River" 89 Lib.Math.max.name ∈ am_big := wl1_m 4 rfl
theorem wd_77 : Cond.methodLink "EvenFerry$River" 92 yX6_joined ∈ am_big := wl1_m 5 rfl
theorem wd_78 : Cond.static yX6_joined ∈ am_big := wl1_m 6 rfl
theorem wd_79 : Cond.methodLink "EvenFerry$Tape" 3 Lib.objectInit ∈ am_big := wl1_m 7 rfl
theorem wd_80 : Cond.fieldLink "EvenFerry$Tape" 9 "EvenFerry$Tape" "signs" "[C" ∈ am_big := wl1_m 8 rfl
theorem wd_81 : Cond.fieldLink "EvenFerry$Tape" 15 "EvenFerry$Tape" "kinds" "[I" ∈ am_big := wl1_m 9 rfl
theorem wd_82 : Cond.fieldLink "EvenFerry$Tape" 19 "EvenFerry$Tape" "places" "[I" ∈ am_big := wl1_m 10 rfl
theorem wd_83 : Cond.arrayClass .char ∈ am_big := wl1_m 11 rfl
theorem wd_84 : Cond.fieldLink "EvenFerry$Tape" 22 "EvenFerry$Tape" "length" "I" ∈ am_big := wl1_m 12 rfl
theorem wd_85 : Cond.fieldLink "EvenFerry$Tape" 26 "EvenFerry$Tape" "tokens" "I" ∈ am_big := wl1_m 13 rfl
theorem wd_87 : Cond.instanceMethod yX8_signAt ∈ am_big := wl1_m 14 rfl
theorem wd_88 : Cond.selects "EvenFerry$Tape" yX8_signAt yX8_signAt ∈ am_big := wl1_m 15 rfl
theorem wd_89 : Cond.methodLink "EvenFerry$Tape" 29 yX8_signAt ∈ am_big := wl1_m 16 rfl
theorem wd_90 : Cond.methodLink "EvenFerry$Tape" 33 yX8_isLetter ∈ am_big := wl1_m 17 rfl
theorem wd_91 : Cond.static yX8_isLetter ∈ am_big := wl1_m 18 rfl
theorem wd_92 : Cond.methodLink "EvenFerry$Tape" 49 yX8_isDigit ∈ am_big := wl1_m 19 rfl
theorem wd_93 : Cond.static yX8_isDigit ∈ am_big := wl1_m 20 rfl
theorem wd_95 : Cond.constantLong "EvenFerry$Tape" 87 32 ∈ am_big := wl1_m 21 rfl
theorem wd_96 : Cond.methodLink "EvenFerry$Parser" 3 Lib.objectInit ∈ am_big := wl1_m 22 rfl
theorem wd_97 : Cond.fieldLink "EvenFerry$Parser" 9 "EvenFerry$Parser" "names" "[J" ∈ am_big := wl1_m 23 rfl
theorem wd_98 : Cond.fieldLink "EvenFerry$Parser" 15 "EvenFerry$Parser" "code" "[I" ∈ am_big := wl1_m 24 rfl
theorem wd_99 : Cond.fieldLink "EvenFerry$Parser" 19 "EvenFerry$Parser" "tape" "LEvenFerry$Tape;" ∈ am_big := wl1_m 25 rfl
theorem wd_100 : Cond.fieldLink "EvenFerry$Parser" 23 "EvenFerry$Parser" "river" "LEvenFerry$River;" ∈ am_big := wl1_m 26 rfl
theorem wd_101 : Cond.arrayClass .long ∈ am_big := wl1_m 27 rfl
theorem wd_102 : Cond.fieldLink "EvenFerry$Parser" 31 "EvenFerry$Parser" "token" "I" ∈ am_big := wl1_m 28 rfl
theorem wd_103 : Cond.fieldLink "EvenFerry$Parser" 65 "EvenFerry$Tape" "kinds" "[I" ∈ am_big := wl1_m 29 rfl
theorem wd_104 : Cond.fieldLink "EvenFerry$Parser" 70 "EvenFerry$Tape" "tokens" "I" ∈ am_big := wl1_m 30 rfl
theorem wd_105 : Cond.fieldLink "EvenFerry$Parser" 34 "EvenFerry$Parser" "fault" "I" ∈ am_big := wl1_m 31 rfl
theorem wd_106 : Cond.fieldLink "EvenFerry$Parser" 73 "EvenFerry$Tape" "places" "[I" ∈ am_big := wl1_m 32 rfl
theorem wd_107 : Cond.instanceMethod yX5_kind ∈ am_big := wl1_m 33 rfl
theorem wd_108 : Cond.selects "EvenFerry$Parser" yX5_kind yX5_kind ∈ am_big := wl1_m 34 rfl
theorem wd_109 : Cond.methodLink "EvenFerry$Parser" 40 yX5_kind ∈ am_big := wl1_m 35 rfl
theorem wd_110 : Cond.instanceMethod yX5_step ∈ am_big := wl1_m 36 rfl
theorem wd_111 : Cond.selects "EvenFerry$Parser" yX5_step yX5_step ∈ am_big := wl1_m 37 rfl
theorem wd_112 : Cond.methodLink "EvenFerry$Parser" 76 yX5_step ∈ am_big := wl1_m 38 rfl
theorem wd_113 : Cond.instanceMethod yX5_wrong ∈ am_big := wl1_m 39 rfl
theorem wd_114 : Cond.selects "EvenFerry$Parser" yX5_wrong yX5_wrong ∈ am_big := wl1_m 40 rfl
theorem wd_115 : Cond.methodLink "EvenFerry$Parser" 79 yX5_wrong ∈ am_big := wl1_m 41 rfl
theorem wd_116 : Cond.instanceMethod yX8_numberValue ∈ am_big := wl1_m 42 rfl
theorem wd_117 : Cond.selects "EvenFerry$Tape" yX8_numberValue yX8_numberValue ∈ am_big := wl1_m 43 rfl
theorem wd_118 : Cond.methodLink "EvenFerry$Parser" 83 yX8_numberValue ∈ am_big := wl1_m 44 rfl
theorem wd_119 : Cond.instanceMethod yX5_lineToldOnce ∈ am_big := wl1_m 45 rfl
theorem wd_120 : Cond.selects "EvenFerry$Parser" yX5_lineToldOnce yX5_lineToldOnce ∈ am_big := wl1_m 46 rfl
theorem wd_121 : Cond.methodLink "EvenFerry$Parser" 87 yX5_lineToldOnce ∈ am_big := wl1_m 47 rfl
theorem wd_122 : Cond.instanceMethod yX5_expect ∈ am_big := wl1_m 48 rfl
theorem wd_123 : Cond.selects "EvenFerry$Parser" yX5_expect yX5_expect ∈ am_big := wl1_m 49 rfl
theorem wd_124 : Cond.methodLink "EvenFerry$Parser" 96 yX5_expect ∈ am_big := wl1_m 50 rfl
theorem wd_125 : Cond.instanceMethod yX5_lawLine ∈ am_big := wl1_m 51 rfl
theorem wd_126 : Cond.selects "EvenFerry$Parser" yX5_lawLine yX5_lawLine ∈ am_big := wl1_m 52 rfl
theorem wd_127 : Cond.methodLink "EvenFerry$Parser" 90 yX5_lawLine ∈ am_big := wl1_m 53 rfl
theorem wd_128 : Cond.instanceMethod yX5_personLine ∈ am_big := wl1_m 54 rfl
theorem wd_129 : Cond.selects "EvenFerry$Parser" yX5_personLine yX5_personLine ∈ am_big := wl1_m 55 rfl
theorem wd_130 : Cond.methodLink "EvenFerry$Parser" 93 yX5_personLine ∈ am_big := wl1_m 56 rfl
theorem wd_131 : Cond.fieldLink "EvenFerry$Parser" 37 "EvenFerry$Parser" "toldOnce" "I" ∈ am_big := wl1_m 57 rfl
theorem wd_132 : Cond.instanceMethod yX5_number ∈ am_big := wl1_m 58 rfl
theorem wd_133 : Cond.selects "EvenFerry$Parser" yX5_number yX5_number ∈ am_big := wl1_m 59 rfl
def wl2 : List Cond := [Cond.methodLink "EvenFerry$Parser" 99 yX5_number, Cond.fieldLink "EvenFerry$Parser" 102 "EvenFerry$River" "room" "I", Cond.fieldLink "EvenFerry$Parser" 105 "EvenFerry$River" "trip" "I", Cond.fieldLink "EvenFerry$Parser" 108 "EvenFerry$River" "boats" "I", Cond.fieldLink "EvenFerry$Parser" 111 "EvenFerry$River" "first" "I", Cond.fieldLink "EvenFerry$Parser" 114 "EvenFerry$River" "second" "I", Cond.fieldLink "EvenFerry$Parser" 117 "EvenFerry$River" "come" "I", Cond.fieldLink "EvenFerry$Parser" 120 "EvenFerry$River" "people" "LEvenFerry$Crowd;", Cond.fieldLink "EvenFerry$Parser" 124 "EvenFerry$Crowd" "size" "I", Cond.instanceMethod yX5_name, Cond.selects "EvenFerry$Parser" yX5_name yX5_name, Cond.methodLink "EvenFerry$Parser" 129 yX5_name, Cond.instanceMethod yX5_sideWord, Cond.selects "EvenFerry$Parser" yX5_sideWord yX5_sideWord, Cond.methodLink "EvenFerry$Parser" 132 yX5_sideWord, Cond.instanceMethod yX5_kindWord, Cond.selects "EvenFerry$Parser" yX5_kindWord yX5_kindWord, Cond.methodLink "EvenFerry$Parser" 135 yX5_kindWord, Cond.instanceMethod yX6_addPerson, Cond.selects "EvenFerry$River" yX6_addPerson yX6_addPerson, Cond.methodLink "EvenFerry$Parser" 138 yX6_addPerson, Cond.instanceMethod yX8_nameKey, Cond.selects "EvenFerry$Tape" yX8_nameKey yX8_nameKey, Cond.methodLink "EvenFerry$Parser" 142 yX8_nameKey, Cond.fieldLink "EvenFerry$Parser" 146 "EvenFerry$River" "choosers" "I", Cond.fieldLink "EvenFerry$Parser" 149 "EvenFerry$River" "laws" "I", Cond.instanceMethod yX5_chain, Cond.selects "EvenFerry$Parser" yX5_chain yX5_chain, Cond.methodLink "EvenFerry$Parser" 152 yX5_chain, Cond.fieldLink "EvenFerry$Parser" 27 "EvenFerry$Parser" "written" "I", Cond.instanceMethod yX6_endLaw, Cond.selects "EvenFerry$River" yX6_endLaw yX6_endLaw, Cond.methodLink "EvenFerry$Parser" 156 yX6_endLaw, Cond.instanceMethod yX5_part, Cond.selects "EvenFerry$Parser" yX5_part yX5_part, Cond.methodLink "EvenFerry$Parser" 163 yX5_part, Cond.methodLink "EvenFerry$Parser" 166 yX5_levelOf, Cond.static yX5_levelOf, Cond.instanceMethod yX5_write, Cond.selects "EvenFerry$Parser" yX5_write yX5_write, Cond.methodLink "EvenFerry$Parser" 169 yX5_write, Cond.fieldLink "EvenFerry$Parser" 172 "EvenFerry$River" "timedLaws" "I", Cond.methodLink "EvenFerry$Day" 3 Lib.objectInit, Cond.fieldLink "EvenFerry$Day" 9 "EvenFerry$Day" "boatBack" "[I", Cond.fieldLink "EvenFerry$Day" 15 "EvenFerry$Day" "facts" "[I", Cond.fieldLink "EvenFerry$Day" 18 "EvenFerry$Day" "stack" "[I", Cond.methodLink "EvenFerry$Day" 21 Lib.Math.max.name, Cond.methodLink "EvenFerry$Day" 29 yX0_init, Cond.instanceMethod yX0_init, Cond.fieldLink "EvenFerry$Day" 32 "EvenFerry$Day" "left" "LEvenFerry$Bank;", Cond.fieldLink "EvenFerry$Day" 36 "EvenFerry$Day" "right" "LEvenFerry$Bank;", Cond.fieldLink "EvenFerry$Day" 39 "EvenFerry$Day" "goesAt" "[I", Cond.fieldLink "EvenFerry$Day" 42 "EvenFerry$Day" "goesBy" "[I", Cond.fieldLink "EvenFerry$Day" 45 "EvenFerry$Day" "ringMinutes" "[I", Cond.fieldLink "EvenFerry$Day" 48 "EvenFerry$Day" "fromLeft" "[I", Cond.fieldLink "EvenFerry$Day" 51 "EvenFerry$Day" "fromRight" "[I", Cond.fieldLink "EvenFerry$Day" 54 "EvenFerry$Day" "river" "LEvenFerry$River;", Cond.fieldLink "EvenFerry$Day" 58 "EvenFerry$River" "people" "LEvenFerry$Crowd;", Cond.fieldLink "EvenFerry$Day" 64 "EvenFerry$Day" "crowd" "LEvenFerry$Crowd;", Cond.fieldLink "EvenFerry$Day" 67 "EvenFerry$Crowd" "sides" "[I"]
set_option maxRecDepth 100000 in
theorem wl2_e : wl2 = [732, 191, 195, 200, 204, 208, 212, 179, 159, 778, 18, 776, 787, 19, 785, 791, 20, 789, 794, 795, 793, 781, 782, 780, 215, 220, 753, 14, 751, 292, 768, 769, 767, 757, 15, 755, 764, 765, 761, 16, 759, 222, 350, 394, 395, 396, 351, 354, 355, 382, 383, 384, 385, 388, 390, 392, 401, 176, 402, 142].filterMap (fun i => lw_tbl[i]?) := by decide +kernel
set_option maxRecDepth 100000 in
theorem wl2_g : wl2.all goodWord = true := by decide +kernel
theorem wl2_m {x : Cond} (i : Nat) (h : wl2[i]? = some x) : x ∈ am_big := am_wl wl2_e wl2_g (List.mem_of_getElem? h)
theorem wd_134 : Cond.methodLink "EvenFerry$Parser" 99 yX5_number ∈ am_big := wl2_m 0 rfl
theorem wd_135 : Cond.fieldLink "EvenFerry$Parser" 102 "EvenFerry$River" "room" "I" ∈ am_big := wl2_m 1 rfl
theorem wd_136 : Cond.fieldLink "EvenFerry$Parser" 105 "EvenFerry$River" "trip" "I" ∈ am_big := wl2_m 2 rfl
theorem wd_137 : Cond.fieldLink "EvenFerry$Parser" 108 "EvenFerry$River" "boats" "I" ∈ am_big := wl2_m 3 rfl
theorem wd_138 : Cond.fieldLink "EvenFerry$Parser" 111 "EvenFerry$River" "first" "I" ∈ am_big := wl2_m 4 rfl
theorem wd_139 : Cond.fieldLink "EvenFerry$Parser" 114 "EvenFerry$River" "second" "I" ∈ am_big := wl2_m 5 rfl
theorem wd_140 : Cond.fieldLink "EvenFerry$Parser" 117 "EvenFerry$River" "come" "I" ∈ am_big := wl2_m 6 rfl
theorem wd_141 : Cond.fieldLink "EvenFerry$Parser" 120 "EvenFerry$River" "people" "LEvenFerry$Crowd;" ∈ am_big := wl2_m 7 rfl
theorem wd_142 : Cond.fieldLink "EvenFerry$Parser" 124 "EvenFerry$Crowd" "size" "I" ∈ am_big := wl2_m 8 rfl
theorem wd_143 : Cond.instanceMethod yX5_name ∈ am_big := wl2_m 9 rfl
theorem wd_144 : Cond.selects "EvenFerry$Parser" yX5_name yX5_name ∈ am_big := wl2_m 10 rfl
theorem wd_145 : Cond.methodLink "EvenFerry$Parser" 129 yX5_name ∈ am_big := wl2_m 11 rfl
theorem wd_146 : Cond.instanceMethod yX5_sideWord ∈ am_big := wl2_m 12 rfl
theorem wd_147 : Cond.selects "EvenFerry$Parser" yX5_sideWord yX5_sideWord ∈ am_big := wl2_m 13 rfl
theorem wd_148 : Cond.methodLink "EvenFerry$Parser" 132 yX5_sideWord ∈ am_big := wl2_m 14 rfl
theorem wd_149 : Cond.instanceMethod yX5_kindWord ∈ am_big := wl2_m 15 rfl
theorem wd_150 : Cond.selects "EvenFerry$Parser" yX5_kindWord yX5_kindWord ∈ am_big := wl2_m 16 rfl
theorem wd_151 : Cond.methodLink "EvenFerry$Parser" 135 yX5_kindWord ∈ am_big := wl2_m 17 rfl
theorem wd_152 : Cond.instanceMethod yX6_addPerson ∈ am_big := wl2_m 18 rfl
theorem wd_153 : Cond.selects "EvenFerry$River" yX6_addPerson yX6_addPerson ∈ am_big := wl2_m 19 rfl
theorem wd_154 : Cond.methodLink "EvenFerry$Parser" 138 yX6_addPerson ∈ am_big := wl2_m 20 rfl
theorem wd_155 : Cond.instanceMethod yX8_nameKey ∈ am_big := wl2_m 21 rfl
theorem wd_156 : Cond.selects "EvenFerry$Tape" yX8_nameKey yX8_nameKey ∈ am_big := wl2_m 22 rfl
theorem wd_157 : Cond.methodLink "EvenFerry$Parser" 142 yX8_nameKey ∈ am_big := wl2_m 23 rfl
theorem wd_158 : Cond.fieldLink "EvenFerry$Parser" 146 "EvenFerry$River" "choosers" "I" ∈ am_big := wl2_m 24 rfl
theorem wd_159 : Cond.fieldLink "EvenFerry$Parser" 149 "EvenFerry$River" "laws" "I" ∈ am_big := wl2_m 25 rfl
theorem wd_160 : Cond.instanceMethod yX5_chain ∈ am_big := wl2_m 26 rfl
theorem wd_161 : Cond.selects "EvenFerry$Parser" yX5_chain yX5_chain ∈ am_big := wl2_m 27 rfl
theorem wd_162 : Cond.methodLink "EvenFerry$Parser" 152 yX5_chain ∈ am_big := wl2_m 28 rfl
theorem wd_163 : Cond.fieldLink "EvenFerry$Parser" 27 "EvenFerry$Parser" "written" "I" ∈ am_big := wl2_m 29 rfl
theorem wd_164 : Cond.instanceMethod yX6_endLaw ∈ am_big := wl2_m 30 rfl
theorem wd_165 : Cond.selects "EvenFerry$River" yX6_endLaw yX6_endLaw ∈ am_big := wl2_m 31 rfl
theorem wd_166 : Cond.methodLink "EvenFerry$Parser" 156 yX6_endLaw ∈ am_big := wl2_m 32 rfl
theorem wd_168 : Cond.instanceMethod yX5_part ∈ am_big := wl2_m 33 rfl
theorem wd_169 : Cond.selects "EvenFerry$Parser" yX5_part yX5_part ∈ am_big := wl2_m 34 rfl
theorem wd_170 : Cond.methodLink "EvenFerry$Parser" 163 yX5_part ∈ am_big := wl2_m 35 rfl
theorem wd_171 : Cond.methodLink "EvenFerry$Parser" 166 yX5_levelOf ∈ am_big := wl2_m 36 rfl
theorem wd_172 : Cond.static yX5_levelOf ∈ am_big := wl2_m 37 rfl
theorem wd_173 : Cond.instanceMethod yX5_write ∈ am_big := wl2_m 38 rfl
theorem wd_174 : Cond.selects "EvenFerry$Parser" yX5_write yX5_write ∈ am_big := wl2_m 39 rfl
theorem wd_175 : Cond.methodLink "EvenFerry$Parser" 169 yX5_write ∈ am_big := wl2_m 40 rfl
theorem wd_176 : Cond.fieldLink "EvenFerry$Parser" 172 "EvenFerry$River" "timedLaws" "I" ∈ am_big := wl2_m 41 rfl
theorem wd_177 : Cond.methodLink "EvenFerry$Day" 3 Lib.objectInit ∈ am_big := wl2_m 42 rfl
theorem wd_178 : Cond.fieldLink "EvenFerry$Day" 9 "EvenFerry$Day" "boatBack" "[I" ∈ am_big := wl2_m 43 rfl
theorem wd_179 : Cond.fieldLink "EvenFerry$Day" 15 "EvenFerry$Day" "facts" "[I" ∈ am_big := wl2_m 44 rfl
theorem wd_180 : Cond.fieldLink "EvenFerry$Day" 18 "EvenFerry$Day" "stack" "[I" ∈ am_big := wl2_m 45 rfl
theorem wd_181 : Cond.methodLink "EvenFerry$Day" 21 Lib.Math.max.name ∈ am_big := wl2_m 46 rfl
theorem wd_182 : Cond.methodLink "EvenFerry$Day" 29 yX0_init ∈ am_big := wl2_m 47 rfl
theorem wd_183 : Cond.instanceMethod yX0_init ∈ am_big := wl2_m 48 rfl
theorem wd_184 : Cond.fieldLink "EvenFerry$Day" 32 "EvenFerry$Day" "left" "LEvenFerry$Bank;" ∈ am_big := wl2_m 49 rfl
theorem wd_185 : Cond.fieldLink "EvenFerry$Day" 36 "EvenFerry$Day" "right" "LEvenFerry$Bank;" ∈ am_big := wl2_m 50 rfl
theorem wd_186 : Cond.fieldLink "EvenFerry$Day" 39 "EvenFerry$Day" "goesAt" "[I" ∈ am_big := wl2_m 51 rfl
theorem wd_187 : Cond.fieldLink "EvenFerry$Day" 42 "EvenFerry$Day" "goesBy" "[I" ∈ am_big := wl2_m 52 rfl
theorem wd_188 : Cond.fieldLink "EvenFerry$Day" 45 "EvenFerry$Day" "ringMinutes" "[I" ∈ am_big := wl2_m 53 rfl
theorem wd_189 : Cond.fieldLink "EvenFerry$Day" 48 "EvenFerry$Day" "fromLeft" "[I" ∈ am_big := wl2_m 54 rfl
theorem wd_190 : Cond.fieldLink "EvenFerry$Day" 51 "EvenFerry$Day" "fromRight" "[I" ∈ am_big := wl2_m 55 rfl
theorem wd_191 : Cond.fieldLink "EvenFerry$Day" 54 "EvenFerry$Day" "river" "LEvenFerry$River;" ∈ am_big := wl2_m 56 rfl
theorem wd_192 : Cond.fieldLink "EvenFerry$Day" 58 "EvenFerry$River" "people" "LEvenFerry$Crowd;" ∈ am_big := wl2_m 57 rfl
theorem wd_193 : Cond.fieldLink "EvenFerry$Day" 64 "EvenFerry$Day" "crowd" "LEvenFerry$Crowd;" ∈ am_big := wl2_m 58 rfl
theorem wd_194 : Cond.fieldLink "EvenFerry$Day" 67 "EvenFerry$Crowd" "sides" "[I" ∈ am_big := wl2_m 59 rfl
def wl3 : List Cond := [Cond.fieldLink "EvenFerry$Day" 72 "EvenFerry$Day" "sides" "[I", Cond.classLink "EvenFerry$Day" 27 "EvenFerry$Bank", Cond.instantiable "EvenFerry$Bank" 6, Cond.initialized "EvenFerry$Bank", Cond.fieldLink "EvenFerry$Day" 73 "EvenFerry$Day" "law" "I", Cond.fieldLink "EvenFerry$Day" 77 "EvenFerry$Crowd" "size" "I", Cond.instanceMethod yX0_empty, Cond.selects "EvenFerry$Bank" yX0_empty yX0_empty, Cond.methodLink "EvenFerry$Day" 84 yX0_empty, Cond.fieldLink "EvenFerry$Day" 87 "EvenFerry$Day" "ringings" "I", Cond.fieldLink "EvenFerry$Day" 90 "EvenFerry$Day" "next" "I", Cond.fieldLink "EvenFerry$Day" 93 "EvenFerry$Day" "leaver" "I", Cond.fieldLink "EvenFerry$Day" 96 "EvenFerry$Day" "leaving" "I", Cond.instanceMethod yX0_leave, Cond.selects "EvenFerry$Bank" yX0_leave yX0_leave, Cond.methodLink "EvenFerry$Day" 99 yX0_leave, Cond.instanceMethod yX3_come, Cond.selects "EvenFerry$Day" yX3_come yX3_come, Cond.methodLink "EvenFerry$Day" 103 yX3_come, Cond.instanceMethod yX3_soonest, Cond.selects "EvenFerry$Day" yX3_soonest yX3_soonest, Cond.methodLink "EvenFerry$Day" 113 yX3_soonest, Cond.instanceMethod yX3_wouldRing, Cond.selects "EvenFerry$Day" yX3_wouldRing yX3_wouldRing, Cond.methodLink "EvenFerry$Day" 106 yX3_wouldRing, Cond.instanceMethod yX3_goOver, Cond.selects "EvenFerry$Day" yX3_goOver yX3_goOver, Cond.methodLink "EvenFerry$Day" 110 yX3_goOver, Cond.instanceMethod yX2_timeAt, Cond.selects "EvenFerry$Crowd" yX2_timeAt yX2_timeAt, Cond.methodLink "EvenFerry$Day" 117 yX2_timeAt, Cond.methodLink "EvenFerry$Day" 120 Lib.Math.min.name, Cond.fieldLink "EvenFerry$Day" 123 "EvenFerry$River" "boats" "I", Cond.instanceMethod yX6_isTimed, Cond.selects "EvenFerry$River" yX6_isTimed yX6_isTimed, Cond.methodLink "EvenFerry$Day" 130 yX6_isTimed, Cond.instanceMethod yX0_size, Cond.selects "EvenFerry$Bank" yX0_size yX0_size, Cond.methodLink "EvenFerry$Day" 133 yX0_size, Cond.instanceMethod yX3_firstHolding, Cond.selects "EvenFerry$Day" yX3_firstHolding yX3_firstHolding, Cond.methodLink "EvenFerry$Day" 136 yX3_firstHolding, Cond.instanceMethod yX3_gatherFacts, Cond.selects "EvenFerry$Day" yX3_gatherFacts yX3_gatherFacts, Cond.methodLink "EvenFerry$Day" 139 yX3_gatherFacts, Cond.instanceMethod yX6_lawValue, Cond.selects "EvenFerry$River" yX6_lawValue yX6_lawValue, Cond.methodLink "EvenFerry$Day" 142 yX6_lawValue, Cond.fieldLink "EvenFerry$Day" 146 "EvenFerry$Crowd" "order" "[I", Cond.instanceMethod yX3_bankOf, Cond.selects "EvenFerry$Day" yX3_bankOf yX3_bankOf, Cond.methodLink "EvenFerry$Day" 149 yX3_bankOf, Cond.instanceMethod yX0_join, Cond.selects "EvenFerry$Bank" yX0_join yX0_join, Cond.methodLink "EvenFerry$Day" 153 yX0_join, Cond.instanceMethod yX3_freeBoat, Cond.selects "EvenFerry$Day" yX3_freeBoat yX3_freeBoat, Cond.methodLink "EvenFerry$Day" 156 yX3_freeBoat, Cond.fieldLink "EvenFerry$Day" 159 "EvenFerry$Bank" "guests" "I", Cond.instanceMethod yX0_countWithGuests]
set_option maxRecDepth 100000 in
theorem wl3_e : wl3 = [403, 352, 353, 100, 404, 156, 858, 859, 857, 397, 400, 405, 406, 866, 867, 865, 876, 877, 875, 941, 942, 940, 893, 894, 892, 932, 933, 931, 880, 881, 879, 920, 199, 945, 946, 944, 897, 898, 896, 950, 29, 948, 906, 26, 904, 922, 923, 921, 153, 886, 24, 884, 889, 890, 888, 902, 25, 900, 368, 909].filterMap (fun i => lw_tbl[i]?) := by decide +kernel
set_option maxRecDepth 100000 in
theorem wl3_g : wl3.all goodWord = true := by decide +kernel
theorem wl3_m {x : Cond} (i : Nat) (h : wl3[i]? = some x) : x ∈ am_big := am_wl wl3_e wl3_g (List.mem_of_getElem? h)
theorem wd_195 : Cond.fieldLink "EvenFerry$Day" 72 "EvenFerry$Day" "sides" "[I" ∈ am_big := wl3_m 0 rfl
theorem wd_196 : Cond.classLink "EvenFerry$Day" 27 "EvenFerry$Bank" ∈ am_big := wl3_m 1 rfl
theorem wd_197 : Cond.instantiable "EvenFerry$Bank" 6 ∈ am_big := wl3_m 2 rfl
theorem wd_198 : Cond.initialized "EvenFerry$Bank" ∈ am_big := wl3_m 3 rfl
theorem wd_199 : Cond.fieldLink "EvenFerry$Day" 73 "EvenFerry$Day" "law" "I" ∈ am_big := wl3_m 4 rfl
theorem wd_200 : Cond.fieldLink "EvenFerry$Day" 77 "EvenFerry$Crowd" "size" "I" ∈ am_big := wl3_m 5 rfl
theorem wd_202 : Cond.instanceMethod yX0_empty ∈ am_big := wl3_m 6 rfl
theorem wd_203 : Cond.selects "EvenFerry$Bank" yX0_empty yX0_empty ∈ am_big := wl3_m 7 rfl
theorem wd_204 : Cond.methodLink "EvenFerry$Day" 84 yX0_empty ∈ am_big := wl3_m 8 rfl
theorem wd_205 : Cond.fieldLink "EvenFerry$Day" 87 "EvenFerry$Day" "ringings" "I" ∈ am_big := wl3_m 9 rfl
theorem wd_206 : Cond.fieldLink "EvenFerry$Day" 90 "EvenFerry$Day" "next" "I" ∈ am_big := wl3_m 10 rfl
theorem wd_207 : Cond.fieldLink "EvenFerry$Day" 93 "EvenFerry$Day" "leaver" "I" ∈ am_big := wl3_m 11 rfl
theorem wd_208 : Cond.fieldLink "EvenFerry$Day" 96 "EvenFerry$Day" "leaving" "I" ∈ am_big := wl3_m 12 rfl
theorem wd_209 : Cond.instanceMethod yX0_leave ∈ am_big := wl3_m 13 rfl
theorem wd_210 : Cond.selects "EvenFerry$Bank" yX0_leave yX0_leave ∈ am_big := wl3_m 14 rfl
theorem wd_211 : Cond.methodLink "EvenFerry$Day" 99 yX0_leave ∈ am_big := wl3_m 15 rfl
theorem wd_212 : Cond.instanceMethod yX3_come ∈ am_big := wl3_m 16 rfl
theorem wd_213 : Cond.selects "EvenFerry$Day" yX3_come yX3_come ∈ am_big := wl3_m 17 rfl
theorem wd_214 : Cond.methodLink "EvenFerry$Day" 103 yX3_come ∈ am_big := wl3_m 18 rfl
theorem wd_215 : Cond.instanceMethod yX3_soonest ∈ am_big := wl3_m 19 rfl
theorem wd_216 : Cond.selects "EvenFerry$Day" yX3_soonest yX3_soonest ∈ am_big := wl3_m 20 rfl
theorem wd_217 : Cond.methodLink "EvenFerry$Day" 113 yX3_soonest ∈ am_big := wl3_m 21 rfl
theorem wd_218 : Cond.instanceMethod yX3_wouldRing ∈ am_big := wl3_m 22 rfl
theorem wd_219 : Cond.selects "EvenFerry$Day" yX3_wouldRing yX3_wouldRing ∈ am_big := wl3_m 23 rfl
theorem wd_220 : Cond.methodLink "EvenFerry$Day" 106 yX3_wouldRing ∈ am_big := wl3_m 24 rfl
theorem wd_221 : Cond.instanceMethod yX3_goOver ∈ am_big := wl3_m 25 rfl
theorem wd_222 : Cond.selects "EvenFerry$Day" yX3_goOver yX3_goOver ∈ am_big := wl3_m 26 rfl
theorem wd_223 : Cond.methodLink "EvenFerry$Day" 110 yX3_goOver ∈ am_big := wl3_m 27 rfl
theorem wd_224 : Cond.instanceMethod yX2_timeAt ∈ am_big := wl3_m 28 rfl
theorem wd_225 : Cond.selects "EvenFerry$Crowd" yX2_timeAt yX2_timeAt ∈ am_big := wl3_m 29 rfl
theorem wd_226 : Cond.methodLink "EvenFerry$Day" 117 yX2_timeAt ∈ am_big := wl3_m 30 rfl
theorem wd_227 : Cond.methodLink "EvenFerry$Day" 120 Lib.Math.min.name ∈ am_big := wl3_m 31 rfl
theorem wd_228 : Cond.fieldLink "EvenFerry$Day" 123 "EvenFerry$River" "boats" "I" ∈ am_big := wl3_m 32 rfl
theorem wd_229 : Cond.instanceMethod yX6_isTimed ∈ am_big := wl3_m 33 rfl
theorem wd_230 : Cond.selects "EvenFerry$River" yX6_isTimed yX6_isTimed ∈ am_big := wl3_m 34 rfl
theorem wd_231 : Cond.methodLink "EvenFerry$Day" 130 yX6_isTimed ∈ am_big := wl3_m 35 rfl
theorem wd_232 : Cond.instanceMethod yX0_size ∈ am_big := wl3_m 36 rfl
theorem wd_233 : Cond.selects "EvenFerry$Bank" yX0_size yX0_size ∈ am_big := wl3_m 37 rfl
theorem wd_234 : Cond.methodLink "EvenFerry$Day" 133 yX0_size ∈ am_big := wl3_m 38 rfl
theorem wd_235 : Cond.instanceMethod yX3_firstHolding ∈ am_big := wl3_m 39 rfl
theorem wd_236 : Cond.selects "EvenFerry$Day" yX3_firstHolding yX3_firstHolding ∈ am_big := wl3_m 40 rfl
theorem wd_237 : Cond.methodLink "EvenFerry$Day" 136 yX3_firstHolding ∈ am_big := wl3_m 41 rfl
theorem wd_239 : Cond.instanceMethod yX3_gatherFacts ∈ am_big := wl3_m 42 rfl
theorem wd_240 : Cond.selects "EvenFerry$Day" yX3_gatherFacts yX3_gatherFacts ∈ am_big := wl3_m 43 rfl
theorem wd_241 : Cond.methodLink "EvenFerry$Day" 139 yX3_gatherFacts ∈ am_big := wl3_m 44 rfl
theorem wd_242 : Cond.instanceMethod yX6_lawValue ∈ am_big := wl3_m 45 rfl
theorem wd_243 : Cond.selects "EvenFerry$River" yX6_lawValue yX6_lawValue ∈ am_big := wl3_m 46 rfl
theorem wd_244 : Cond.methodLink "EvenFerry$Day" 142 yX6_lawValue ∈ am_big := wl3_m 47 rfl
theorem wd_245 : Cond.fieldLink "EvenFerry$Day" 146 "EvenFerry$Crowd" "order" "[I" ∈ am_big := wl3_m 48 rfl
theorem wd_246 : Cond.instanceMethod yX3_bankOf ∈ am_big := wl3_m 49 rfl
theorem wd_247 : Cond.selects "EvenFerry$Day" yX3_bankOf yX3_bankOf ∈ am_big := wl3_m 50 rfl
theorem wd_248 : Cond.methodLink "EvenFerry$Day" 149 yX3_bankOf ∈ am_big := wl3_m 51 rfl
theorem wd_249 : Cond.instanceMethod yX0_join ∈ am_big := wl3_m 52 rfl
theorem wd_250 : Cond.selects "EvenFerry$Bank" yX0_join yX0_join ∈ am_big := wl3_m 53 rfl
theorem wd_251 : Cond.methodLink "EvenFerry$Day" 153 yX0_join ∈ am_big := wl3_m 54 rfl
theorem wd_252 : Cond.instanceMethod yX3_freeBoat ∈ am_big := wl3_m 55 rfl
theorem wd_253 : Cond.selects "EvenFerry$Day" yX3_freeBoat yX3_freeBoat ∈ am_big := wl3_m 56 rfl
theorem wd_254 : Cond.methodLink "EvenFerry$Day" 156 yX3_freeBoat ∈ am_big := wl3_m 57 rfl
theorem wd_255 : Cond.fieldLink "EvenFerry$Day" 159 "EvenFerry$Bank" "guests" "I" ∈ am_big := wl3_m 58 rfl
theorem wd_256 : Cond.instanceMethod yX0_countWithGuests ∈ am_big := wl3_m 59 rfl
def wl4 : List Cond := [Cond.selects "EvenFerry$Bank" yX0_countWithGuests yX0_countWithGuests, Cond.methodLink "EvenFerry$Day" 162 yX0_countWithGuests, Cond.instanceMethod yX0_loadWithGuests, Cond.selects "EvenFerry$Bank" yX0_loadWithGuests yX0_loadWithGuests, Cond.methodLink "EvenFerry$Day" 165 yX0_loadWithGuests, Cond.instanceMethod yX3_earliest, Cond.selects "EvenFerry$Day" yX3_earliest yX3_earliest, Cond.methodLink "EvenFerry$Day" 168 yX3_earliest, Cond.fieldLink "EvenFerry$Day" 172 "EvenFerry$Bank" "head" "I", Cond.fieldLink "EvenFerry$Day" 175 "EvenFerry$Bank" "tail" "I", Cond.fieldLink "EvenFerry$Day" 178 "EvenFerry$Bank" "row" "[I", Cond.fieldLink "EvenFerry$Day" 181 "EvenFerry$Crowd" "times" "[I", Cond.fieldLink "EvenFerry$Day" 184 "EvenFerry$River" "trip" "I", Cond.instanceMethod yX3_board, Cond.selects "EvenFerry$Day" yX3_board yX3_board, Cond.methodLink "EvenFerry$Day" 187 yX3_board, Cond.fieldLink "EvenFerry$Day" 190 "EvenFerry$River" "room" "I", Cond.methodLink "EvenFerry$Day" 193 yX0_leaveFirst, Cond.instanceMethod yX3_waitOf, Cond.selects "EvenFerry$Day" yX3_waitOf yX3_waitOf, Cond.methodLink "EvenFerry$Day" 197 yX3_waitOf, Cond.fieldLink "EvenFerry$Day" 200 "EvenFerry$River" "costs" "[I", Cond.instanceMethod yX3_costOf, Cond.selects "EvenFerry$Day" yX3_costOf yX3_costOf, Cond.methodLink "EvenFerry$Day" 203 yX3_costOf, Cond.methodLink "EvenFerry$Lots" 3 Lib.objectInit, Cond.methodLink "EvenFerry$Lots" 11 yX2_init, Cond.fieldLink "EvenFerry$Lots" 14 "EvenFerry$Lots" "crowd" "LEvenFerry$Crowd;", Cond.classLink "EvenFerry$Lots" 9 "EvenFerry$Crowd", Cond.fieldLink "EvenFerry$Lots" 20 "EvenFerry$Lots" "known" "Z", Cond.fieldLink "EvenFerry$Lots" 24 "EvenFerry$Lots" "knownSeed" "I", Cond.fieldLink "EvenFerry$Lots" 28 "EvenFerry$Lots" "knownDays" "I", Cond.fieldLink "EvenFerry$Lots" 31 "EvenFerry$Lots" "drawn" "J", Cond.fieldLink "EvenFerry$Lots" 35 "EvenFerry$Lots" "ringings" "I", Cond.fieldLink "EvenFerry$Lots" 38 "EvenFerry$Lots" "comers" "I", Cond.fieldLink "EvenFerry$Lots" 41 "EvenFerry$Lots" "waited" "I", Cond.fieldLink "EvenFerry$Lots" 44 "EvenFerry$Lots" "nights" "I", Cond.fieldLink "EvenFerry$Lots" 47 "EvenFerry$Lots" "longest" "I", Cond.fieldLink "EvenFerry$Lots" 50 "EvenFerry$State" "river" "LEvenFerry$River;", Cond.instanceMethod yX4_drawCrowd, Cond.selects "EvenFerry$Lots" yX4_drawCrowd yX4_drawCrowd, Cond.methodLink "EvenFerry$Lots" 56 yX4_drawCrowd, Cond.fieldLink "EvenFerry$Lots" 60 "EvenFerry$State" "law" "I", Cond.fieldLink "EvenFerry$Lots" 63 "EvenFerry$Crowd" "sides" "[I", Cond.instanceMethod yX3_begin, Cond.selects "EvenFerry$Day" yX3_begin yX3_begin, Cond.methodLink "EvenFerry$Lots" 67 yX3_begin, Cond.instanceMethod yX3_run, Cond.selects "EvenFerry$Day" yX3_run yX3_run, Cond.methodLink "EvenFerry$Lots" 73 yX3_run, Cond.instanceMethod yX4_addUp, Cond.selects "EvenFerry$Lots" yX4_addUp yX4_addUp, Cond.methodLink "EvenFerry$Lots" 76 yX4_addUp, Cond.fieldLink "EvenFerry$Lots" 80 "EvenFerry$Crowd" "size" "I", Cond.instanceMethod yX4_draw, Cond.selects "EvenFerry$Lots" yX4_draw yX4_draw, Cond.methodLink "EvenFerry$Lots" 83 yX4_draw, Cond.fieldLink "EvenFerry$Lots" 87 "EvenFerry$River" "come" "I", Cond.fieldLink "EvenFerry$Lots" 92 "EvenFerry$River" "second" "I", Cond.fieldLink "EvenFerry$Lots" 95 "EvenFerry$River" "first" "I"]
set_option maxRecDepth 100000 in
theorem wl4_e : wl4 = [910, 908, 913, 914, 912, 918, 27, 916, 362, 364, 360, 140, 196, 937, 28, 935, 192, 939, 961, 962, 976, 182, 973, 974, 972, 483, 485, 486, 484, 487, 489, 490, 501, 491, 493, 495, 497, 499, 324, 1150, 41, 1148, 328, 144, 853, 854, 1161, 862, 863, 1162, 1165, 43, 1163, 158, 1154, 42, 1152, 211, 207, 203].filterMap (fun i => lw_tbl[i]?) := by decide +kernel
set_option maxRecDepth 100000 in
theorem wl4_g : wl4.all goodWord = true := by decide +kernel
theorem wl4_m {x : Cond} (i : Nat) (h : wl4[i]? = some x) : x ∈ am_big := am_wl wl4_e wl4_g (List.mem_of_getElem? h)
theorem wd_257 : Cond.selects "EvenFerry$Bank" yX0_countWithGuests yX0_countWithGuests ∈ am_big := wl4_m 0 rfl
theorem wd_258 : Cond.methodLink "EvenFerry$Day" 162 yX0_countWithGuests ∈ am_big := wl4_m 1 rfl
theorem wd_259 : Cond.instanceMethod yX0_loadWithGuests ∈ am_big := wl4_m 2 rfl
theorem wd_260 : Cond.selects "EvenFerry$Bank" yX0_loadWithGuests yX0_loadWithGuests ∈ am_big := wl4_m 3 rfl
theorem wd_261 : Cond.methodLink "EvenFerry$Day" 165 yX0_loadWithGuests ∈ am_big := wl4_m 4 rfl
theorem wd_262 : Cond.instanceMethod yX3_earliest ∈ am_big := wl4_m 5 rfl
theorem wd_263 : Cond.selects "EvenFerry$Day" yX3_earliest yX3_earliest ∈ am_big := wl4_m 6 rfl
theorem wd_264 : Cond.methodLink "EvenFerry$Day" 168 yX3_earliest ∈ am_big := wl4_m 7 rfl
theorem wd_265 : Cond.fieldLink "EvenFerry$Day" 172 "EvenFerry$Bank" "head" "I" ∈ am_big := wl4_m 8 rfl
theorem wd_266 : Cond.fieldLink "EvenFerry$Day" 175 "EvenFerry$Bank" "tail" "I" ∈ am_big := wl4_m 9 rfl
theorem wd_267 : Cond.fieldLink "EvenFerry$Day" 178 "EvenFerry$Bank" "row" "[I" ∈ am_big := wl4_m 10 rfl
theorem wd_268 : Cond.fieldLink "EvenFerry$Day" 181 "EvenFerry$Crowd" "times" "[I" ∈ am_big := wl4_m 11 rfl
theorem wd_269 : Cond.fieldLink "EvenFerry$Day" 184 "EvenFerry$River" "trip" "I" ∈ am_big := wl4_m 12 rfl
theorem wd_270 : Cond.instanceMethod yX3_board ∈ am_big := wl4_m 13 rfl
theorem wd_271 : Cond.selects "EvenFerry$Day" yX3_board yX3_board ∈ am_big := wl4_m 14 rfl
theorem wd_272 : Cond.methodLink "EvenFerry$Day" 187 yX3_board ∈ am_big := wl4_m 15 rfl
theorem wd_273 : Cond.fieldLink "EvenFerry$Day" 190 "EvenFerry$River" "room" "I" ∈ am_big := wl4_m 16 rfl
theorem wd_274 : Cond.methodLink "EvenFerry$Day" 193 yX0_leaveFirst ∈ am_big := wl4_m 17 rfl
theorem wd_275 : Cond.instanceMethod yX3_waitOf ∈ am_big := wl4_m 18 rfl
theorem wd_276 : Cond.selects "EvenFerry$Day" yX3_waitOf yX3_waitOf ∈ am_big := wl4_m 19 rfl
theorem wd_277 : Cond.methodLink "EvenFerry$Day" 197 yX3_waitOf ∈ am_big := wl4_m 20 rfl
theorem wd_278 : Cond.fieldLink "EvenFerry$Day" 200 "EvenFerry$River" "costs" "[I" ∈ am_big := wl4_m 21 rfl
theorem wd_279 : Cond.instanceMethod yX3_costOf ∈ am_big := wl4_m 22 rfl
theorem wd_280 : Cond.selects "EvenFerry$Day" yX3_costOf yX3_costOf ∈ am_big := wl4_m 23 rfl
theorem wd_281 : Cond.methodLink "EvenFerry$Day" 203 yX3_costOf ∈ am_big := wl4_m 24 rfl
theorem wd_282 : Cond.methodLink "EvenFerry$Lots" 3 Lib.objectInit ∈ am_big := wl4_m 25 rfl
theorem wd_283 : Cond.methodLink "EvenFerry$Lots" 11 yX2_init ∈ am_big := wl4_m 26 rfl
theorem wd_284 : Cond.fieldLink "EvenFerry$Lots" 14 "EvenFerry$Lots" "crowd" "LEvenFerry$Crowd;" ∈ am_big := wl4_m 27 rfl
theorem wd_285 : Cond.classLink "EvenFerry$Lots" 9 "EvenFerry$Crowd" ∈ am_big := wl4_m 28 rfl
theorem wd_286 : Cond.fieldLink "EvenFerry$Lots" 20 "EvenFerry$Lots" "known" "Z" ∈ am_big := wl4_m 29 rfl
theorem wd_287 : Cond.fieldLink "EvenFerry$Lots" 24 "EvenFerry$Lots" "knownSeed" "I" ∈ am_big := wl4_m 30 rfl
theorem wd_288 : Cond.fieldLink "EvenFerry$Lots" 28 "EvenFerry$Lots" "knownDays" "I" ∈ am_big := wl4_m 31 rfl
theorem wd_289 : Cond.fieldLink "EvenFerry$Lots" 31 "EvenFerry$Lots" "drawn" "J" ∈ am_big := wl4_m 32 rfl
theorem wd_290 : Cond.fieldLink "EvenFerry$Lots" 35 "EvenFerry$Lots" "ringings" "I" ∈ am_big := wl4_m 33 rfl
theorem wd_291 : Cond.fieldLink "EvenFerry$Lots" 38 "EvenFerry$Lots" "comers" "I" ∈ am_big := wl4_m 34 rfl
theorem wd_292 : Cond.fieldLink "EvenFerry$Lots" 41 "EvenFerry$Lots" "waited" "I" ∈ am_big := wl4_m 35 rfl
theorem wd_293 : Cond.fieldLink "EvenFerry$Lots" 44 "EvenFerry$Lots" "nights" "I" ∈ am_big := wl4_m 36 rfl
theorem wd_294 : Cond.fieldLink "EvenFerry$Lots" 47 "EvenFerry$Lots" "longest" "I" ∈ am_big := wl4_m 37 rfl
theorem wd_295 : Cond.fieldLink "EvenFerry$Lots" 50 "EvenFerry$State" "river" "LEvenFerry$River;" ∈ am_big := wl4_m 38 rfl
theorem wd_296 : Cond.instanceMethod yX4_drawCrowd ∈ am_big := wl4_m 39 rfl
theorem wd_297 : Cond.selects "EvenFerry$Lots" yX4_drawCrowd yX4_drawCrowd ∈ am_big := wl4_m 40 rfl
theorem wd_298 : Cond.methodLink "EvenFerry$Lots" 56 yX4_drawCrowd ∈ am_big := wl4_m 41 rfl
theorem wd_299 : Cond.fieldLink "EvenFerry$Lots" 60 "EvenFerry$State" "law" "I" ∈ am_big := wl4_m 42 rfl
theorem wd_300 : Cond.fieldLink "EvenFerry$Lots" 63 "EvenFerry$Crowd" "sides" "[I" ∈ am_big := wl4_m 43 rfl
theorem wd_301 : Cond.instanceMethod yX3_begin ∈ am_big := wl4_m 44 rfl
theorem wd_302 : Cond.selects "EvenFerry$Day" yX3_begin yX3_begin ∈ am_big := wl4_m 45 rfl
theorem wd_303 : Cond.methodLink "EvenFerry$Lots" 67 yX3_begin ∈ am_big := wl4_m 46 rfl
theorem wd_304 : Cond.instanceMethod yX3_run ∈ am_big := wl4_m 47 rfl
theorem wd_305 : Cond.selects "EvenFerry$Day" yX3_run yX3_run ∈ am_big := wl4_m 48 rfl
theorem wd_306 : Cond.methodLink "EvenFerry$Lots" 73 yX3_run ∈ am_big := wl4_m 49 rfl
theorem wd_307 : Cond.instanceMethod yX4_addUp ∈ am_big := wl4_m 50 rfl
theorem wd_308 : Cond.selects "EvenFerry$Lots" yX4_addUp yX4_addUp ∈ am_big := wl4_m 51 rfl
theorem wd_309 : Cond.methodLink "EvenFerry$Lots" 76 yX4_addUp ∈ am_big := wl4_m 52 rfl
theorem wd_310 : Cond.fieldLink "EvenFerry$Lots" 80 "EvenFerry$Crowd" "size" "I" ∈ am_big := wl4_m 53 rfl
theorem wd_311 : Cond.instanceMethod yX4_draw ∈ am_big := wl4_m 54 rfl
theorem wd_312 : Cond.selects "EvenFerry$Lots" yX4_draw yX4_draw ∈ am_big := wl4_m 55 rfl
theorem wd_313 : Cond.methodLink "EvenFerry$Lots" 83 yX4_draw ∈ am_big := wl4_m 56 rfl
theorem wd_314 : Cond.fieldLink "EvenFerry$Lots" 87 "EvenFerry$River" "come" "I" ∈ am_big := wl4_m 57 rfl
theorem wd_315 : Cond.fieldLink "EvenFerry$Lots" 92 "EvenFerry$River" "second" "I" ∈ am_big := wl4_m 58 rfl
theorem wd_316 : Cond.fieldLink "EvenFerry$Lots" 95 "EvenFerry$River" "first" "I" ∈ am_big := wl4_m 59 rfl
def wl5 : List Cond := [Cond.methodLink "EvenFerry$Lots" 98 yX2_add, Cond.constantLong "EvenFerry$Lots" 102 1103515245, Cond.constantLong "EvenFerry$Lots" 104 12345, Cond.constantLong "EvenFerry$Lots" 106 2147483648, Cond.constantLong "EvenFerry$Lots" 108 65536, Cond.fieldLink "EvenFerry$Lots" 110 "EvenFerry$Day" "ringings" "I", Cond.methodLink "EvenFerry$Lots" 111 yX3_waitOf, Cond.methodLink "EvenFerry$Lots" 114 Lib.Math.max.name, Cond.fieldLink "EvenFerry$Lots" 120 "EvenFerry$Day" "goesBy" "[I", Cond.methodLink "EvenFerry$Choices" 3 Lib.objectInit, Cond.fieldLink "EvenFerry$Choices" 9 "EvenFerry$Choices" "costs" "[I", Cond.fieldLink "EvenFerry$Choices" 15 "EvenFerry$Choices" "ownCosts" "[I", Cond.fieldLink "EvenFerry$Choices" 18 "EvenFerry$Choices" "restBits" "[I", Cond.fieldLink "EvenFerry$Choices" 21 "EvenFerry$Choices" "sides" "[I", Cond.fieldLink "EvenFerry$Choices" 24 "EvenFerry$Choices" "known" "Z", Cond.fieldLink "EvenFerry$Choices" 28 "EvenFerry$State" "river" "LEvenFerry$River;", Cond.fieldLink "EvenFerry$Choices" 34 "EvenFerry$River" "choosers" "I", Cond.methodLink "EvenFerry$Choices" 40 Lib.Math.min.name, Cond.instanceMethod yX1_findCheapest, Cond.selects "EvenFerry$Choices" yX1_findCheapest yX1_findCheapest, Cond.methodLink "EvenFerry$Choices" 85 yX1_findCheapest, Cond.instanceMethod yX1_findResting, Cond.selects "EvenFerry$Choices" yX1_findResting yX1_findResting, Cond.methodLink "EvenFerry$Choices" 88 yX1_findResting, Cond.instanceMethod yX1_seat, Cond.selects "EvenFerry$Choices" yX1_seat yX1_seat, Cond.methodLink "EvenFerry$Choices" 46 yX1_seat, Cond.fieldLink "EvenFerry$Choices" 50 "EvenFerry$State" "law" "I", Cond.fieldLink "EvenFerry$Choices" 53 "EvenFerry$River" "people" "LEvenFerry$Crowd;", Cond.methodLink "EvenFerry$Choices" 57 yX3_begin, Cond.methodLink "EvenFerry$Choices" 63 yX3_run, Cond.instanceMethod yX3_costWithout, Cond.selects "EvenFerry$Day" yX3_costWithout yX3_costWithout, Cond.methodLink "EvenFerry$Choices" 67 yX3_costWithout, Cond.fieldLink "EvenFerry$Choices" 75 "EvenFerry$River" "chooserPersons" "[I", Cond.methodLink "EvenFerry$Choices" 82 yX3_costOf, Cond.fieldLink "EvenFerry$Choices" 92 "EvenFerry$Crowd" "size" "I", Cond.fieldLink "EvenFerry$Choices" 97 "EvenFerry$Crowd" "sides" "[I", Cond.fieldLink "EvenFerry$Choices" 98 "EvenFerry$Choices" "cheapest" "I", Cond.fieldLink "EvenFerry$Choices" 101 "EvenFerry$Choices" "resting" "I", Cond.instanceMethod yX1_isAtRest, Cond.selects "EvenFerry$Choices" yX1_isAtRest yX1_isAtRest, Cond.methodLink "EvenFerry$Choices" 104 yX1_isAtRest, Cond.methodLink "EvenFerry" 1 Lib.objectInit, Cond.instanceMethod yX6_init, Cond.instanceMethod yX8_init, Cond.fieldLink "EvenFerry" 13 "EvenFerry" "tape" "LEvenFerry$Tape;", Cond.methodLink "EvenFerry" 21 yX5_init, Cond.instanceMethod yX5_init, Cond.fieldLink "EvenFerry" 24 "EvenFerry" "parser" "LEvenFerry$Parser;", Cond.methodLink "EvenFerry" 30 yX7_init, Cond.instanceMethod yX7_init, Cond.fieldLink "EvenFerry" 33 "EvenFerry" "now" "LEvenFerry$State;", Cond.fieldLink "EvenFerry" 37 "EvenFerry" "marks" "[LEvenFerry$State;", Cond.classLink "EvenFerry" 28 "EvenFerry$State", Cond.instantiable "EvenFerry$State" 5, Cond.initialized "EvenFerry$State", Cond.classLink "EvenFerry" 19 "EvenFerry$Parser", Cond.instantiable "EvenFerry$Parser" 8, Cond.initialized "EvenFerry$Parser"]
set_option maxRecDepth 100000 in
theorem wl5_e : wl5 = [1160, 1156, 1157, 1158, 1159, 398, 1167, 1168, 386, 449, 450, 452, 453, 455, 461, 323, 213, 1046, 1059, 37, 1057, 1063, 38, 1061, 1048, 1049, 1047, 327, 177, 1053, 1054, 969, 970, 1055, 186, 1056, 157, 143, 457, 459, 1067, 39, 1065, 120, 126, 257, 523, 283, 284, 524, 316, 317, 525, 526, 314, 315, 98, 281, 282, 97].filterMap (fun i => lw_tbl[i]?) := by decide +kernel
set_option maxRecDepth 100000 in
theorem wl5_g : wl5.all goodWord = true := by decide +kernel
theorem wl5_m {x : Cond} (i : Nat) (h : wl5[i]? = some x) : x ∈ am_big := am_wl wl5_e wl5_g (List.mem_of_getElem? h)
theorem wd_317 : Cond.methodLink "EvenFerry$Lots" 98 yX2_add ∈ am_big := wl5_m 0 rfl
theorem wd_318 : Cond.constantLong "EvenFerry$Lots" 102 1103515245 ∈ am_big := wl5_m 1 rfl
theorem wd_319 : Cond.constantLong "EvenFerry$Lots" 104 12345 ∈ am_big := wl5_m 2 rfl
theorem wd_320 : Cond.constantLong "EvenFerry$Lots" 106 2147483648 ∈ am_big := wl5_m 3 rfl
theorem wd_321 : Cond.constantLong "EvenFerry$Lots" 108 65536 ∈ am_big := wl5_m 4 rfl
theorem wd_322 : Cond.fieldLink "EvenFerry$Lots" 110 "EvenFerry$Day" "ringings" "I" ∈ am_big := wl5_m 5 rfl
theorem wd_323 : Cond.methodLink "EvenFerry$Lots" 111 yX3_waitOf ∈ am_big := wl5_m 6 rfl
theorem wd_324 : Cond.methodLink "EvenFerry$Lots" 114 Lib.Math.max.name ∈ am_big := wl5_m 7 rfl
theorem wd_325 : Cond.fieldLink "EvenFerry$Lots" 120 "EvenFerry$Day" "goesBy" "[I" ∈ am_big := wl5_m 8 rfl
theorem wd_327 : Cond.methodLink "EvenFerry$Choices" 3 Lib.objectInit ∈ am_big := wl5_m 9 rfl
theorem wd_328 : Cond.fieldLink "EvenFerry$Choices" 9 "EvenFerry$Choices" "costs" "[I" ∈ am_big := wl5_m 10 rfl
theorem wd_329 : Cond.fieldLink "EvenFerry$Choices" 15 "EvenFerry$Choices" "ownCosts" "[I" ∈ am_big := wl5_m 11 rfl
theorem wd_330 : Cond.fieldLink "EvenFerry$Choices" 18 "EvenFerry$Choices" "restBits" "[I" ∈ am_big := wl5_m 12 rfl
theorem wd_331 : Cond.fieldLink "EvenFerry$Choices" 21 "EvenFerry$Choices" "sides" "[I" ∈ am_big := wl5_m 13 rfl
theorem wd_332 : Cond.fieldLink "EvenFerry$Choices" 24 "EvenFerry$Choices" "known" "Z" ∈ am_big := wl5_m 14 rfl
theorem wd_333 : Cond.fieldLink "EvenFerry$Choices" 28 "EvenFerry$State" "river" "LEvenFerry$River;" ∈ am_big := wl5_m 15 rfl
theorem wd_334 : Cond.fieldLink "EvenFerry$Choices" 34 "EvenFerry$River" "choosers" "I" ∈ am_big := wl5_m 16 rfl
theorem wd_335 : Cond.methodLink "EvenFerry$Choices" 40 Lib.Math.min.name ∈ am_big := wl5_m 17 rfl
theorem wd_336 : Cond.instanceMethod yX1_findCheapest ∈ am_big := wl5_m 18 rfl
theorem wd_337 : Cond.selects "EvenFerry$Choices" yX1_findCheapest yX1_findCheapest ∈ am_big := wl5_m 19 rfl
theorem wd_338 : Cond.methodLink "EvenFerry$Choices" 85 yX1_findCheapest ∈ am_big := wl5_m 20 rfl
theorem wd_339 : Cond.instanceMethod yX1_findResting ∈ am_big := wl5_m 21 rfl
theorem wd_340 : Cond.selects "EvenFerry$Choices" yX1_findResting yX1_findResting ∈ am_big := wl5_m 22 rfl
theorem wd_341 : Cond.methodLink "EvenFerry$Choices" 88 yX1_findResting ∈ am_big := wl5_m 23 rfl
theorem wd_342 : Cond.instanceMethod yX1_seat ∈ am_big := wl5_m 24 rfl
theorem wd_343 : Cond.selects "EvenFerry$Choices" yX1_seat yX1_seat ∈ am_big := wl5_m 25 rfl
theorem wd_344 : Cond.methodLink "EvenFerry$Choices" 46 yX1_seat ∈ am_big := wl5_m 26 rfl
theorem wd_345 : Cond.fieldLink "EvenFerry$Choices" 50 "EvenFerry$State" "law" "I" ∈ am_big := wl5_m 27 rfl
theorem wd_346 : Cond.fieldLink "EvenFerry$Choices" 53 "EvenFerry$River" "people" "LEvenFerry$Crowd;" ∈ am_big := wl5_m 28 rfl
theorem wd_347 : Cond.methodLink "EvenFerry$Choices" 57 yX3_begin ∈ am_big := wl5_m 29 rfl
theorem wd_348 : Cond.methodLink "EvenFerry$Choices" 63 yX3_run ∈ am_big := wl5_m 30 rfl
theorem wd_349 : Cond.instanceMethod yX3_costWithout ∈ am_big := wl5_m 31 rfl
theorem wd_350 : Cond.selects "EvenFerry$Day" yX3_costWithout yX3_costWithout ∈ am_big := wl5_m 32 rfl
theorem wd_351 : Cond.methodLink "EvenFerry$Choices" 67 yX3_costWithout ∈ am_big := wl5_m 33 rfl
theorem wd_353 : Cond.fieldLink "EvenFerry$Choices" 75 "EvenFerry$River" "chooserPersons" "[I" ∈ am_big := wl5_m 34 rfl
theorem wd_355 : Cond.methodLink "EvenFerry$Choices" 82 yX3_costOf ∈ am_big := wl5_m 35 rfl
theorem wd_356 : Cond.fieldLink "EvenFerry$Choices" 92 "EvenFerry$Crowd" "size" "I" ∈ am_big := wl5_m 36 rfl
theorem wd_357 : Cond.fieldLink "EvenFerry$Choices" 97 "EvenFerry$Crowd" "sides" "[I" ∈ am_big := wl5_m 37 rfl
theorem wd_358 : Cond.fieldLink "EvenFerry$Choices" 98 "EvenFerry$Choices" "cheapest" "I" ∈ am_big := wl5_m 38 rfl
theorem wd_359 : Cond.fieldLink "EvenFerry$Choices" 101 "EvenFerry$Choices" "resting" "I" ∈ am_big := wl5_m 39 rfl
theorem wd_360 : Cond.instanceMethod yX1_isAtRest ∈ am_big := wl5_m 40 rfl
theorem wd_361 : Cond.selects "EvenFerry$Choices" yX1_isAtRest yX1_isAtRest ∈ am_big := wl5_m 41 rfl
theorem wd_362 : Cond.methodLink "EvenFerry$Choices" 104 yX1_isAtRest ∈ am_big := wl5_m 42 rfl
theorem wd_363 : Cond.methodLink "EvenFerry" 1 Lib.objectInit ∈ am_big := wl5_m 43 rfl
theorem wd_365 : Cond.instanceMethod yX6_init ∈ am_big := wl5_m 44 rfl
theorem wd_367 : Cond.instanceMethod yX8_init ∈ am_big := wl5_m 45 rfl
theorem wd_368 : Cond.fieldLink "EvenFerry" 13 "EvenFerry" "tape" "LEvenFerry$Tape;" ∈ am_big := wl5_m 46 rfl
theorem wd_369 : Cond.methodLink "EvenFerry" 21 yX5_init ∈ am_big := wl5_m 47 rfl
theorem wd_370 : Cond.instanceMethod yX5_init ∈ am_big := wl5_m 48 rfl
theorem wd_371 : Cond.fieldLink "EvenFerry" 24 "EvenFerry" "parser" "LEvenFerry$Parser;" ∈ am_big := wl5_m 49 rfl
theorem wd_372 : Cond.methodLink "EvenFerry" 30 yX7_init ∈ am_big := wl5_m 50 rfl
theorem wd_373 : Cond.instanceMethod yX7_init ∈ am_big := wl5_m 51 rfl
theorem wd_374 : Cond.fieldLink "EvenFerry" 33 "EvenFerry" "now" "LEvenFerry$State;" ∈ am_big := wl5_m 52 rfl
theorem wd_375 : Cond.fieldLink "EvenFerry" 37 "EvenFerry" "marks" "[LEvenFerry$State;" ∈ am_big := wl5_m 53 rfl
theorem wd_376 : Cond.classLink "EvenFerry" 28 "EvenFerry$State" ∈ am_big := wl5_m 54 rfl
theorem wd_377 : Cond.instantiable "EvenFerry$State" 5 ∈ am_big := wl5_m 55 rfl
theorem wd_378 : Cond.initialized "EvenFerry$State" ∈ am_big := wl5_m 56 rfl
theorem wd_379 : Cond.classLink "EvenFerry" 19 "EvenFerry$Parser" ∈ am_big := wl5_m 57 rfl
theorem wd_380 : Cond.instantiable "EvenFerry$Parser" 8 ∈ am_big := wl5_m 58 rfl
theorem wd_381 : Cond.initialized "EvenFerry$Parser" ∈ am_big := wl5_m 59 rfl
def wl6 : List Cond := [Cond.classLink "EvenFerry" 10 "EvenFerry$Tape", Cond.instantiable "EvenFerry$Tape" 5, Cond.initialized "EvenFerry$Tape", Cond.classLink "EvenFerry" 7 "EvenFerry$River", Cond.instantiable "EvenFerry$River" 15, Cond.initialized "EvenFerry$River", Cond.methodLink "EvenFerry" 43 yX3_init, Cond.instanceMethod yX3_init, Cond.fieldLink "EvenFerry" 46 "EvenFerry" "day" "LEvenFerry$Day;", Cond.fieldLink "EvenFerry" 50 "EvenFerry" "trial" "LEvenFerry$Day;", Cond.instanceMethod yX1_init, Cond.fieldLink "EvenFerry" 56 "EvenFerry" "choices" "LEvenFerry$Choices;", Cond.instanceMethod yX4_init, Cond.fieldLink "EvenFerry" 63 "EvenFerry" "lots" "LEvenFerry$Lots;", Cond.classLink "EvenFerry" 60 "EvenFerry$Lots", Cond.instantiable "EvenFerry$Lots" 10, Cond.initialized "EvenFerry$Lots", Cond.classLink "EvenFerry" 53 "EvenFerry$Choices", Cond.instantiable "EvenFerry$Choices" 7, Cond.initialized "EvenFerry$Choices", Cond.classLink "EvenFerry" 41 "EvenFerry$Day", Cond.instantiable "EvenFerry$Day" 18, Cond.initialized "EvenFerry$Day", Cond.instanceMethod yX8_append, Cond.selects "EvenFerry$Tape" yX8_append yX8_append, Cond.methodLink "EvenFerry" 67 yX8_append, Cond.fieldLink "EvenFerry" 71 "EvenFerry$Tape" "length" "I", Cond.instanceMethod yX8_cut, Cond.selects "EvenFerry$Tape" yX8_cut yX8_cut, Cond.methodLink "EvenFerry" 75 yX8_cut, Cond.instanceMethod yX5_read, Cond.selects "EvenFerry$Parser" yX5_read yX5_read, Cond.methodLink "EvenFerry" 78 yX5_read, Cond.fieldLink "EvenFerry" 82 "EvenFerry$Parser" "river" "LEvenFerry$River;", Cond.instanceMethod yX7_start, Cond.selects "EvenFerry$State" yX7_start yX7_start, Cond.methodLink "EvenFerry" 86 yX7_start, Cond.instanceMethod yX9_forget, Cond.selects "EvenFerry" yX9_forget yX9_forget, Cond.methodLink "EvenFerry" 89 yX9_forget, Cond.fieldLink "EvenFerry" 92 "EvenFerry$State" "river" "LEvenFerry$River;", Cond.instanceMethod yX9_isPerson, Cond.selects "EvenFerry" yX9_isPerson yX9_isPerson, Cond.methodLink "EvenFerry" 93 yX9_isPerson, Cond.fieldLink "EvenFerry" 97 "EvenFerry$River" "people" "LEvenFerry$Crowd;", Cond.fieldLink "EvenFerry" 101 "EvenFerry$Crowd" "sides" "[I", Cond.methodLink "EvenFerry" 107 yX9_get, Cond.fieldLink "EvenFerry" 111 "EvenFerry$Crowd" "times" "[I", Cond.fieldLink "EvenFerry" 114 "EvenFerry$Crowd" "weights" "[I", Cond.fieldLink "EvenFerry" 117 "EvenFerry$River" "costs" "[I", Cond.fieldLink "EvenFerry" 120 "EvenFerry$River" "kinds" "[I", Cond.fieldLink "EvenFerry" 123 "EvenFerry$Crowd" "counts" "[I", Cond.fieldLink "EvenFerry" 126 "EvenFerry$River" "laws" "I", Cond.fieldLink "EvenFerry" 129 "EvenFerry$State" "law" "I", Cond.instanceMethod yX9_knowDay, Cond.selects "EvenFerry" yX9_knowDay yX9_knowDay, Cond.methodLink "EvenFerry" 132 yX9_knowDay, Cond.fieldLink "EvenFerry" 135 "EvenFerry$Day" "ringings" "I", Cond.fieldLink "EvenFerry" 138 "EvenFerry$Day" "ringMinutes" "[I", Cond.fieldLink "EvenFerry" 141 "EvenFerry$Day" "fromLeft" "[I"]
set_option maxRecDepth 100000 in
theorem wl6_e : wl6 = [254, 255, 96, 123, 124, 93, 347, 348, 527, 528, 447, 529, 481, 530, 478, 479, 102, 444, 445, 101, 345, 346, 99, 556, 557, 555, 265, 564, 565, 563, 709, 710, 708, 291, 823, 824, 822, 828, 21, 826, 325, 837, 22, 835, 178, 145, 839, 139, 148, 181, 184, 151, 219, 329, 850, 23, 848, 399, 389, 391].filterMap (fun i => lw_tbl[i]?) := by decide +kernel
set_option maxRecDepth 100000 in
theorem wl6_g : wl6.all goodWord = true := by decide +kernel
theorem wl6_m {x : Cond} (i : Nat) (h : wl6[i]? = some x) : x ∈ am_big := am_wl wl6_e wl6_g (List.mem_of_getElem? h)
theorem wd_382 : Cond.classLink "EvenFerry" 10 "EvenFerry$Tape" ∈ am_big := wl6_m 0 rfl
theorem wd_383 : Cond.instantiable "EvenFerry$Tape" 5 ∈ am_big := wl6_m 1 rfl
theorem wd_384 : Cond.initialized "EvenFerry$Tape" ∈ am_big := wl6_m 2 rfl
theorem wd_385 : Cond.classLink "EvenFerry" 7 "EvenFerry$River" ∈ am_big := wl6_m 3 rfl
theorem wd_386 : Cond.instantiable "EvenFerry$River" 15 ∈ am_big := wl6_m 4 rfl
theorem wd_387 : Cond.initialized "EvenFerry$River" ∈ am_big := wl6_m 5 rfl
theorem wd_388 : Cond.methodLink "EvenFerry" 43 yX3_init ∈ am_big := wl6_m 6 rfl
theorem wd_389 : Cond.instanceMethod yX3_init ∈ am_big := wl6_m 7 rfl
theorem wd_390 : Cond.fieldLink "EvenFerry" 46 "EvenFerry" "day" "LEvenFerry$Day;" ∈ am_big := wl6_m 8 rfl
theorem wd_391 : Cond.fieldLink "EvenFerry" 50 "EvenFerry" "trial" "LEvenFerry$Day;" ∈ am_big := wl6_m 9 rfl
theorem wd_393 : Cond.instanceMethod yX1_init ∈ am_big := wl6_m 10 rfl
theorem wd_394 : Cond.fieldLink "EvenFerry" 56 "EvenFerry" "choices" "LEvenFerry$Choices;" ∈ am_big := wl6_m 11 rfl
theorem wd_396 : Cond.instanceMethod yX4_init ∈ am_big := wl6_m 12 rfl
theorem wd_397 : Cond.fieldLink "EvenFerry" 63 "EvenFerry" "lots" "LEvenFerry$Lots;" ∈ am_big := wl6_m 13 rfl
theorem wd_398 : Cond.classLink "EvenFerry" 60 "EvenFerry$Lots" ∈ am_big := wl6_m 14 rfl
theorem wd_399 : Cond.instantiable "EvenFerry$Lots" 10 ∈ am_big := wl6_m 15 rfl
theorem wd_400 : Cond.initialized "EvenFerry$Lots" ∈ am_big := wl6_m 16 rfl
theorem wd_401 : Cond.classLink "EvenFerry" 53 "EvenFerry$Choices" ∈ am_big := wl6_m 17 rfl
theorem wd_402 : Cond.instantiable "EvenFerry$Choices" 7 ∈ am_big := wl6_m 18 rfl
theorem wd_403 : Cond.initialized "EvenFerry$Choices" ∈ am_big := wl6_m 19 rfl
theorem wd_404 : Cond.classLink "EvenFerry" 41 "EvenFerry$Day" ∈ am_big := wl6_m 20 rfl
theorem wd_405 : Cond.instantiable "EvenFerry$Day" 18 ∈ am_big := wl6_m 21 rfl
theorem wd_406 : Cond.initialized "EvenFerry$Day" ∈ am_big := wl6_m 22 rfl
theorem wd_407 : Cond.instanceMethod yX8_append ∈ am_big := wl6_m 23 rfl
theorem wd_408 : Cond.selects "EvenFerry$Tape" yX8_append yX8_append ∈ am_big := wl6_m 24 rfl
theorem wd_409 : Cond.methodLink "EvenFerry" 67 yX8_append ∈ am_big := wl6_m 25 rfl
theorem wd_410 : Cond.fieldLink "EvenFerry" 71 "EvenFerry$Tape" "length" "I" ∈ am_big := wl6_m 26 rfl
theorem wd_411 : Cond.instanceMethod yX8_cut ∈ am_big := wl6_m 27 rfl
theorem wd_412 : Cond.selects "EvenFerry$Tape" yX8_cut yX8_cut ∈ am_big := wl6_m 28 rfl
theorem wd_413 : Cond.methodLink "EvenFerry" 75 yX8_cut ∈ am_big := wl6_m 29 rfl
theorem wd_414 : Cond.instanceMethod yX5_read ∈ am_big := wl6_m 30 rfl
theorem wd_415 : Cond.selects "EvenFerry$Parser" yX5_read yX5_read ∈ am_big := wl6_m 31 rfl
theorem wd_416 : Cond.methodLink "EvenFerry" 78 yX5_read ∈ am_big := wl6_m 32 rfl
theorem wd_417 : Cond.fieldLink "EvenFerry" 82 "EvenFerry$Parser" "river" "LEvenFerry$River;" ∈ am_big := wl6_m 33 rfl
theorem wd_418 : Cond.instanceMethod yX7_start ∈ am_big := wl6_m 34 rfl
theorem wd_419 : Cond.selects "EvenFerry$State" yX7_start yX7_start ∈ am_big := wl6_m 35 rfl
theorem wd_420 : Cond.methodLink "EvenFerry" 86 yX7_start ∈ am_big := wl6_m 36 rfl
theorem wd_421 : Cond.instanceMethod yX9_forget ∈ am_big := wl6_m 37 rfl
theorem wd_422 : Cond.selects "EvenFerry" yX9_forget yX9_forget ∈ am_big := wl6_m 38 rfl
theorem wd_423 : Cond.methodLink "EvenFerry" 89 yX9_forget ∈ am_big := wl6_m 39 rfl
theorem wd_424 : Cond.fieldLink "EvenFerry" 92 "EvenFerry$State" "river" "LEvenFerry$River;" ∈ am_big := wl6_m 40 rfl
theorem wd_425 : Cond.instanceMethod yX9_isPerson ∈ am_big := wl6_m 41 rfl
theorem wd_426 : Cond.selects "EvenFerry" yX9_isPerson yX9_isPerson ∈ am_big := wl6_m 42 rfl
theorem wd_427 : Cond.methodLink "EvenFerry" 93 yX9_isPerson ∈ am_big := wl6_m 43 rfl
theorem wd_428 : Cond.fieldLink "EvenFerry" 97 "EvenFerry$River" "people" "LEvenFerry$Crowd;" ∈ am_big := wl6_m 44 rfl
theorem wd_429 : Cond.fieldLink "EvenFerry" 101 "EvenFerry$Crowd" "sides" "[I" ∈ am_big := wl6_m 45 rfl
theorem wd_430 : Cond.methodLink "EvenFerry" 107 yX9_get ∈ am_big := wl6_m 46 rfl
theorem wd_431 : Cond.fieldLink "EvenFerry" 111 "EvenFerry$Crowd" "times" "[I" ∈ am_big := wl6_m 47 rfl
theorem wd_432 : Cond.fieldLink "EvenFerry" 114 "EvenFerry$Crowd" "weights" "[I" ∈ am_big := wl6_m 48 rfl
theorem wd_433 : Cond.fieldLink "EvenFerry" 117 "EvenFerry$River" "costs" "[I" ∈ am_big := wl6_m 49 rfl
theorem wd_434 : Cond.fieldLink "EvenFerry" 120 "EvenFerry$River" "kinds" "[I" ∈ am_big := wl6_m 50 rfl
theorem wd_435 : Cond.fieldLink "EvenFerry" 123 "EvenFerry$Crowd" "counts" "[I" ∈ am_big := wl6_m 51 rfl
theorem wd_436 : Cond.fieldLink "EvenFerry" 126 "EvenFerry$River" "laws" "I" ∈ am_big := wl6_m 52 rfl
theorem wd_437 : Cond.fieldLink "EvenFerry" 129 "EvenFerry$State" "law" "I" ∈ am_big := wl6_m 53 rfl
theorem wd_438 : Cond.instanceMethod yX9_knowDay ∈ am_big := wl6_m 54 rfl
theorem wd_439 : Cond.selects "EvenFerry" yX9_knowDay yX9_knowDay ∈ am_big := wl6_m 55 rfl
theorem wd_440 : Cond.methodLink "EvenFerry" 132 yX9_knowDay ∈ am_big := wl6_m 56 rfl
theorem wd_441 : Cond.fieldLink "EvenFerry" 135 "EvenFerry$Day" "ringings" "I" ∈ am_big := wl6_m 57 rfl
theorem wd_442 : Cond.fieldLink "EvenFerry" 138 "EvenFerry$Day" "ringMinutes" "[I" ∈ am_big := wl6_m 58 rfl
theorem wd_443 : Cond.fieldLink "EvenFerry" 141 "EvenFerry$Day" "fromLeft" "[I" ∈ am_big := wl6_m 59 rfl
def wl7 : List Cond := [Cond.fieldLink "EvenFerry" 144 "EvenFerry$Day" "fromRight" "[I", Cond.methodLink "EvenFerry" 147 yX3_waitOf, Cond.fieldLink "EvenFerry" 151 "EvenFerry$Day" "goesBy" "[I", Cond.methodLink "EvenFerry" 154 yX3_costWithout, Cond.instanceMethod yX3_longestWait, Cond.selects "EvenFerry$Day" yX3_longestWait yX3_longestWait, Cond.methodLink "EvenFerry" 157 yX3_longestWait, Cond.instanceMethod yX9_nightBits, Cond.selects "EvenFerry" yX9_nightBits yX9_nightBits, Cond.methodLink "EvenFerry" 161 yX9_nightBits, Cond.methodLink "EvenFerry" 164 yX9_isMinute, Cond.instanceMethod yX9_heads, Cond.selects "EvenFerry" yX9_heads yX9_heads, Cond.methodLink "EvenFerry" 167 yX9_heads, Cond.instanceMethod yX9_together, Cond.selects "EvenFerry" yX9_together yX9_together, Cond.methodLink "EvenFerry" 171 yX9_together, Cond.instanceMethod yX9_beginTrial, Cond.selects "EvenFerry" yX9_beginTrial yX9_beginTrial, Cond.methodLink "EvenFerry" 175 yX9_beginTrial, Cond.methodLink "EvenFerry" 179 yX3_run, Cond.methodLink "EvenFerry" 182 yX3_come, Cond.methodLink "EvenFerry" 185 yX3_wouldRing, Cond.instanceMethod yX3_wouldRingWith, Cond.selects "EvenFerry$Day" yX3_wouldRingWith yX3_wouldRingWith, Cond.methodLink "EvenFerry" 188 yX3_wouldRingWith, Cond.fieldLink "EvenFerry" 206 "EvenFerry$Crowd" "size" "I", Cond.instanceMethod yX9_mayTurn, Cond.selects "EvenFerry" yX9_mayTurn yX9_mayTurn, Cond.methodLink "EvenFerry" 192 yX9_mayTurn, Cond.instanceMethod yX9_gainByTurning, Cond.selects "EvenFerry" yX9_gainByTurning yX9_gainByTurning, Cond.methodLink "EvenFerry" 203 yX9_gainByTurning, Cond.instanceMethod yX1_weigh, Cond.selects "EvenFerry$Choices" yX1_weigh yX1_weigh, Cond.methodLink "EvenFerry" 209 yX1_weigh, Cond.fieldLink "EvenFerry" 213 "EvenFerry$Choices" "costs" "[I", Cond.fieldLink "EvenFerry" 214 "EvenFerry$Choices" "cheapest" "I", Cond.fieldLink "EvenFerry" 217 "EvenFerry$River" "choosers" "I", Cond.methodLink "EvenFerry" 220 yX1_seat, Cond.fieldLink "EvenFerry" 223 "EvenFerry$Choices" "sides" "[I", Cond.methodLink "EvenFerry" 224 yX3_begin, Cond.fieldLink "EvenFerry" 228 "EvenFerry$Choices" "resting" "I", Cond.fieldLink "EvenFerry" 231 "EvenFerry$Choices" "restBits" "[I", Cond.instanceMethod yX7_addTold, Cond.selects "EvenFerry$State" yX7_addTold yX7_addTold, Cond.methodLink "EvenFerry" 234 yX7_addTold, Cond.fieldLink "EvenFerry" 237 "EvenFerry$State" "tolds" "I", Cond.fieldLink "EvenFerry" 240 "EvenFerry$State" "told" "[I", Cond.instanceMethod yX3_misjudged, Cond.selects "EvenFerry$Day" yX3_misjudged yX3_misjudged, Cond.methodLink "EvenFerry" 243 yX3_misjudged, Cond.instanceMethod yX7_isTold, Cond.selects "EvenFerry$State" yX7_isTold yX7_isTold, Cond.methodLink "EvenFerry" 246 yX7_isTold, Cond.constantLong "EvenFerry" 249 (-1), Cond.instanceMethod yX9_levels, Cond.selects "EvenFerry" yX9_levels yX9_levels, Cond.methodLink "EvenFerry" 251 yX9_levels, Cond.fieldLink "EvenFerry" 255 "EvenFerry$River" "second" "I"]
set_option maxRecDepth 100000 in
theorem wl7_e : wl7 = [393, 960, 387, 968, 978, 979, 977, 983, 30, 981, 989, 994, 31, 992, 1006, 33, 1004, 1014, 34, 1012, 861, 1016, 1017, 1019, 1020, 1018, 160, 1028, 35, 1026, 1032, 36, 1030, 1043, 1044, 1042, 451, 458, 216, 1073, 456, 852, 460, 454, 1087, 1088, 1086, 331, 321, 1102, 1103, 1101, 1106, 1107, 1105, 1113, 1116, 40, 1114, 209].filterMap (fun i => lw_tbl[i]?) := by decide +kernel
set_option maxRecDepth 100000 in
theorem wl7_g : wl7.all goodWord = true := by decide +kernel
theorem wl7_m {x : Cond} (i : Nat) (h : wl7[i]? = some x) : x ∈ am_big := am_wl wl7_e wl7_g (List.mem_of_getElem? h)
theorem wd_444 : Cond.fieldLink "EvenFerry" 144 "EvenFerry$Day" "fromRight" "[I" ∈ am_big := wl7_m 0 rfl
theorem wd_445 : Cond.methodLink "EvenFerry" 147 yX3_waitOf ∈ am_big := wl7_m 1 rfl
theorem wd_446 : Cond.fieldLink "EvenFerry" 151 "EvenFerry$Day" "goesBy" "[I" ∈ am_big := wl7_m 2 rfl
theorem wd_447 : Cond.methodLink "EvenFerry" 154 yX3_costWithout ∈ am_big := wl7_m 3 rfl
theorem wd_448 : Cond.instanceMethod yX3_longestWait ∈ am_big := wl7_m 4 rfl
theorem wd_449 : Cond.selects "EvenFerry$Day" yX3_longestWait yX3_longestWait ∈ am_big := wl7_m 5 rfl
theorem wd_450 : Cond.methodLink "EvenFerry" 157 yX3_longestWait ∈ am_big := wl7_m 6 rfl
theorem wd_451 : Cond.instanceMethod yX9_nightBits ∈ am_big := wl7_m 7 rfl
theorem wd_452 : Cond.selects "EvenFerry" yX9_nightBits yX9_nightBits ∈ am_big := wl7_m 8 rfl
theorem wd_453 : Cond.methodLink "EvenFerry" 161 yX9_nightBits ∈ am_big := wl7_m 9 rfl
theorem wd_454 : Cond.methodLink "EvenFerry" 164 yX9_isMinute ∈ am_big := wl7_m 10 rfl
theorem wd_455 : Cond.instanceMethod yX9_heads ∈ am_big := wl7_m 11 rfl
theorem wd_456 : Cond.selects "EvenFerry" yX9_heads yX9_heads ∈ am_big := wl7_m 12 rfl
theorem wd_457 : Cond.methodLink "EvenFerry" 167 yX9_heads ∈ am_big := wl7_m 13 rfl
theorem wd_458 : Cond.instanceMethod yX9_together ∈ am_big := wl7_m 14 rfl
theorem wd_459 : Cond.selects "EvenFerry" yX9_together yX9_together ∈ am_big := wl7_m 15 rfl
theorem wd_460 : Cond.methodLink "EvenFerry" 171 yX9_together ∈ am_big := wl7_m 16 rfl
theorem wd_461 : Cond.instanceMethod yX9_beginTrial ∈ am_big := wl7_m 17 rfl
theorem wd_462 : Cond.selects "EvenFerry" yX9_beginTrial yX9_beginTrial ∈ am_big := wl7_m 18 rfl
theorem wd_463 : Cond.methodLink "EvenFerry" 175 yX9_beginTrial ∈ am_big := wl7_m 19 rfl
theorem wd_464 : Cond.methodLink "EvenFerry" 179 yX3_run ∈ am_big := wl7_m 20 rfl
theorem wd_465 : Cond.methodLink "EvenFerry" 182 yX3_come ∈ am_big := wl7_m 21 rfl
theorem wd_466 : Cond.methodLink "EvenFerry" 185 yX3_wouldRing ∈ am_big := wl7_m 22 rfl
theorem wd_467 : Cond.instanceMethod yX3_wouldRingWith ∈ am_big := wl7_m 23 rfl
theorem wd_468 : Cond.selects "EvenFerry$Day" yX3_wouldRingWith yX3_wouldRingWith ∈ am_big := wl7_m 24 rfl
theorem wd_469 : Cond.methodLink "EvenFerry" 188 yX3_wouldRingWith ∈ am_big := wl7_m 25 rfl
theorem wd_470 : Cond.fieldLink "EvenFerry" 206 "EvenFerry$Crowd" "size" "I" ∈ am_big := wl7_m 26 rfl
theorem wd_471 : Cond.instanceMethod yX9_mayTurn ∈ am_big := wl7_m 27 rfl
theorem wd_472 : Cond.selects "EvenFerry" yX9_mayTurn yX9_mayTurn ∈ am_big := wl7_m 28 rfl
theorem wd_473 : Cond.methodLink "EvenFerry" 192 yX9_mayTurn ∈ am_big := wl7_m 29 rfl
theorem wd_474 : Cond.instanceMethod yX9_gainByTurning ∈ am_big := wl7_m 30 rfl
theorem wd_475 : Cond.selects "EvenFerry" yX9_gainByTurning yX9_gainByTurning ∈ am_big := wl7_m 31 rfl
theorem wd_476 : Cond.methodLink "EvenFerry" 203 yX9_gainByTurning ∈ am_big := wl7_m 32 rfl
theorem wd_477 : Cond.instanceMethod yX1_weigh ∈ am_big := wl7_m 33 rfl
theorem wd_478 : Cond.selects "EvenFerry$Choices" yX1_weigh yX1_weigh ∈ am_big := wl7_m 34 rfl
theorem wd_479 : Cond.methodLink "EvenFerry" 209 yX1_weigh ∈ am_big := wl7_m 35 rfl
theorem wd_480 : Cond.fieldLink "EvenFerry" 213 "EvenFerry$Choices" "costs" "[I" ∈ am_big := wl7_m 36 rfl
theorem wd_481 : Cond.fieldLink "EvenFerry" 214 "EvenFerry$Choices" "cheapest" "I" ∈ am_big := wl7_m 37 rfl
theorem wd_482 : Cond.fieldLink "EvenFerry" 217 "EvenFerry$River" "choosers" "I" ∈ am_big := wl7_m 38 rfl
theorem wd_483 : Cond.methodLink "EvenFerry" 220 yX1_seat ∈ am_big := wl7_m 39 rfl
theorem wd_484 : Cond.fieldLink "EvenFerry" 223 "EvenFerry$Choices" "sides" "[I" ∈ am_big := wl7_m 40 rfl
theorem wd_485 : Cond.methodLink "EvenFerry" 224 yX3_begin ∈ am_big := wl7_m 41 rfl
theorem wd_486 : Cond.fieldLink "EvenFerry" 228 "EvenFerry$Choices" "resting" "I" ∈ am_big := wl7_m 42 rfl
theorem wd_487 : Cond.fieldLink "EvenFerry" 231 "EvenFerry$Choices" "restBits" "[I" ∈ am_big := wl7_m 43 rfl
theorem wd_488 : Cond.instanceMethod yX7_addTold ∈ am_big := wl7_m 44 rfl
theorem wd_489 : Cond.selects "EvenFerry$State" yX7_addTold yX7_addTold ∈ am_big := wl7_m 45 rfl
theorem wd_490 : Cond.methodLink "EvenFerry" 234 yX7_addTold ∈ am_big := wl7_m 46 rfl
theorem wd_491 : Cond.fieldLink "EvenFerry" 237 "EvenFerry$State" "tolds" "I" ∈ am_big := wl7_m 47 rfl
theorem wd_492 : Cond.fieldLink "EvenFerry" 240 "EvenFerry$State" "told" "[I" ∈ am_big := wl7_m 48 rfl
theorem wd_493 : Cond.instanceMethod yX3_misjudged ∈ am_big := wl7_m 49 rfl
theorem wd_494 : Cond.selects "EvenFerry$Day" yX3_misjudged yX3_misjudged ∈ am_big := wl7_m 50 rfl
theorem wd_495 : Cond.methodLink "EvenFerry" 243 yX3_misjudged ∈ am_big := wl7_m 51 rfl
theorem wd_496 : Cond.instanceMethod yX7_isTold ∈ am_big := wl7_m 52 rfl
theorem wd_497 : Cond.selects "EvenFerry$State" yX7_isTold yX7_isTold ∈ am_big := wl7_m 53 rfl
theorem wd_498 : Cond.methodLink "EvenFerry" 246 yX7_isTold ∈ am_big := wl7_m 54 rfl
theorem wd_499 : Cond.constantLong "EvenFerry" 249 (-1) ∈ am_big := wl7_m 55 rfl
theorem wd_500 : Cond.instanceMethod yX9_levels ∈ am_big := wl7_m 56 rfl
theorem wd_501 : Cond.selects "EvenFerry" yX9_levels yX9_levels ∈ am_big := wl7_m 57 rfl
theorem wd_502 : Cond.methodLink "EvenFerry" 251 yX9_levels ∈ am_big := wl7_m 58 rfl
theorem wd_503 : Cond.fieldLink "EvenFerry" 255 "EvenFerry$River" "second" "I" ∈ am_big := wl7_m 59 rfl
def wl8 : List Cond := [Cond.methodLink "EvenFerry" 258 yX9_power, Cond.static yX9_power, Cond.methodLink "EvenFerry" 262 yX9_lowest, Cond.static yX9_lowest, Cond.methodLink "EvenFerry" 266 yX9_orders, Cond.static yX9_orders, Cond.instanceMethod yX4_isKnown, Cond.selects "EvenFerry$Lots" yX4_isKnown yX4_isKnown, Cond.methodLink "EvenFerry" 270 yX4_isKnown, Cond.instanceMethod yX4_go, Cond.selects "EvenFerry$Lots" yX4_go yX4_go, Cond.methodLink "EvenFerry" 273 yX4_go, Cond.fieldLink "EvenFerry" 277 "EvenFerry$Lots" "ringings" "I", Cond.fieldLink "EvenFerry" 278 "EvenFerry$Lots" "comers" "I", Cond.fieldLink "EvenFerry" 281 "EvenFerry$Lots" "waited" "I", Cond.fieldLink "EvenFerry" 284 "EvenFerry$Lots" "nights" "I", Cond.fieldLink "EvenFerry" 287 "EvenFerry$Lots" "longest" "I", Cond.instanceMethod yX7_take, Cond.selects "EvenFerry$State" yX7_take yX7_take, Cond.methodLink "EvenFerry" 290 yX7_take, Cond.fieldLink "EvenFerry" 294 "EvenFerry$State" "laid" "Z", Cond.fieldLink "EvenFerry" 298 "EvenFerry$River" "room" "I", Cond.fieldLink "EvenFerry" 301 "EvenFerry$River" "trip" "I", Cond.fieldLink "EvenFerry" 304 "EvenFerry$River" "boats" "I", Cond.fieldLink "EvenFerry" 307 "EvenFerry" "dayKnown" "Z", Cond.fieldLink "EvenFerry" 310 "EvenFerry$Choices" "known" "Z", Cond.fieldLink "EvenFerry" 313 "EvenFerry$Lots" "known" "Z", Cond.instanceMethod yX3_isWaitingBehind, Cond.selects "EvenFerry$Day" yX3_isWaitingBehind yX3_isWaitingBehind, Cond.methodLink "EvenFerry" 314 yX3_isWaitingBehind, Cond.instanceMethod yX9_waitsAt, Cond.selects "EvenFerry" yX9_waitsAt yX9_waitsAt, Cond.methodLink "EvenFerry" 317 yX9_waitsAt, Cond.instanceMethod yX3_letGoHome, Cond.selects "EvenFerry$Day" yX3_letGoHome yX3_letGoHome, Cond.methodLink "EvenFerry" 320 yX3_letGoHome, Cond.fieldLink "EvenFerry" 324 "EvenFerry$River" "first" "I", Cond.methodLink "EvenFerryModel" 1 Lib.objectInit, Cond.fieldLink "EvenFerryModel" 7 "EvenFerryModel" "tape" "[I", Cond.fieldLink "EvenFerryModel" 13 "EvenFerryModel" "river" "[I", Cond.fieldLink "EvenFerryModel" 16 "EvenFerryModel" "lineFrom" "[I", Cond.fieldLink "EvenFerryModel" 19 "EvenFerryModel" "lineTo" "[I", Cond.fieldLink "EvenFerryModel" 22 "EvenFerryModel" "codes" "[I", Cond.fieldLink "EvenFerryModel" 25 "EvenFerryModel" "names" "[J", Cond.fieldLink "EvenFerryModel" 29 "EvenFerryModel" "sideOf" "[I", Cond.fieldLink "EvenFerryModel" 32 "EvenFerryModel" "atOf" "[I", Cond.fieldLink "EvenFerryModel" 35 "EvenFerryModel" "weightOf" "[I", Cond.fieldLink "EvenFerryModel" 38 "EvenFerryModel" "costOf" "[I", Cond.fieldLink "EvenFerryModel" 41 "EvenFerryModel" "kindOf" "[I", Cond.fieldLink "EvenFerryModel" 44 "EvenFerryModel" "tellAt" "[I", Cond.fieldLink "EvenFerryModel" 47 "EvenFerryModel" "opened" "[I", Cond.fieldLink "EvenFerryModel" 50 "EvenFerryModel" "compared" "[Z", Cond.fieldLink "EvenFerryModel" 54 "EvenFerryModel" "kept" "[I", Cond.fieldLink "EvenFerryModel" 57 "EvenFerryModel" "keptBy" "[I", Cond.fieldLink "EvenFerryModel" 60 "EvenFerryModel" "ahead" "[I", Cond.fieldLink "EvenFerryModel" 63 "EvenFerryModel" "against" "[I", Cond.fieldLink "EvenFerryModel" 66 "EvenFerryModel" "sum" "[I", Cond.fieldLink "EvenFerryModel" 69 "EvenFerryModel" "sumBy" "[I", Cond.fieldLink "EvenFerryModel" 72 "EvenFerryModel" "term" "[I", Cond.fieldLink "EvenFerryModel" 75 "EvenFerryModel" "termBy" "[I"]
set_option maxRecDepth 100000 in
theorem wl8_e : wl8 = [1122, 1123, 1125, 1126, 1118, 1119, 1141, 1142, 1140, 1145, 1146, 1144, 492, 494, 496, 498, 500, 1179, 1180, 1178, 332, 193, 197, 201, 531, 462, 488, 1001, 1002, 1000, 998, 32, 996, 1035, 1036, 1034, 205, 1264, 1271, 1279, 1280, 1281, 1282, 1283, 1284, 1285, 1286, 1287, 1288, 1289, 1292, 1293, 1294, 1295, 1296, 1297, 1298, 1299, 1300, 1301].filterMap (fun i => lw_tbl[i]?) := by decide +kernel
set_option maxRecDepth 100000 in
theorem wl8_g : wl8.all goodWord = true := by decide +kernel
theorem wl8_m {x : Cond} (i : Nat) (h : wl8[i]? = some x) : x ∈ am_big := am_wl wl8_e wl8_g (List.mem_of_getElem? h)
theorem wd_504 : Cond.methodLink "EvenFerry" 258 yX9_power ∈ am_big := wl8_m 0 rfl
theorem wd_505 : Cond.static yX9_power ∈ am_big := wl8_m 1 rfl
theorem wd_506 : Cond.methodLink "EvenFerry" 262 yX9_lowest ∈ am_big := wl8_m 2 rfl
theorem wd_507 : Cond.static yX9_lowest ∈ am_big := wl8_m 3 rfl
theorem wd_508 : Cond.methodLink "EvenFerry" 266 yX9_orders ∈ am_big := wl8_m 4 rfl
theorem wd_509 : Cond.static yX9_orders ∈ am_big := wl8_m 5 rfl
theorem wd_510 : Cond.instanceMethod yX4_isKnown ∈ am_big := wl8_m 6 rfl
theorem wd_511 : Cond.selects "EvenFerry$Lots" yX4_isKnown yX4_isKnown ∈ am_big := wl8_m 7 rfl
theorem wd_512 : Cond.methodLink "EvenFerry" 270 yX4_isKnown ∈ am_big := wl8_m 8 rfl
theorem wd_513 : Cond.instanceMethod yX4_go ∈ am_big := wl8_m 9 rfl
theorem wd_514 : Cond.selects "EvenFerry$Lots" yX4_go yX4_go ∈ am_big := wl8_m 10 rfl
theorem wd_515 : Cond.methodLink "EvenFerry" 273 yX4_go ∈ am_big := wl8_m 11 rfl
theorem wd_516 : Cond.fieldLink "EvenFerry" 277 "EvenFerry$Lots" "ringings" "I" ∈ am_big := wl8_m 12 rfl
theorem wd_517 : Cond.fieldLink "EvenFerry" 278 "EvenFerry$Lots" "comers" "I" ∈ am_big := wl8_m 13 rfl
theorem wd_518 : Cond.fieldLink "EvenFerry" 281 "EvenFerry$Lots" "waited" "I" ∈ am_big := wl8_m 14 rfl
theorem wd_519 : Cond.fieldLink "EvenFerry" 284 "EvenFerry$Lots" "nights" "I" ∈ am_big := wl8_m 15 rfl
theorem wd_520 : Cond.fieldLink "EvenFerry" 287 "EvenFerry$Lots" "longest" "I" ∈ am_big := wl8_m 16 rfl
theorem wd_521 : Cond.instanceMethod yX7_take ∈ am_big := wl8_m 17 rfl
theorem wd_522 : Cond.selects "EvenFerry$State" yX7_take yX7_take ∈ am_big := wl8_m 18 rfl
theorem wd_523 : Cond.methodLink "EvenFerry" 290 yX7_take ∈ am_big := wl8_m 19 rfl
theorem wd_524 : Cond.fieldLink "EvenFerry" 294 "EvenFerry$State" "laid" "Z" ∈ am_big := wl8_m 20 rfl
theorem wd_525 : Cond.fieldLink "EvenFerry" 298 "EvenFerry$River" "room" "I" ∈ am_big := wl8_m 21 rfl
theorem wd_526 : Cond.fieldLink "EvenFerry" 301 "EvenFerry$River" "trip" "I" ∈ am_big := wl8_m 22 rfl
theorem wd_527 : Cond.fieldLink "EvenFerry" 304 "EvenFerry$River" "boats" "I" ∈ am_big := wl8_m 23 rfl
theorem wd_528 : Cond.fieldLink "EvenFerry" 307 "EvenFerry" "dayKnown" "Z" ∈ am_big := wl8_m 24 rfl
theorem wd_529 : Cond.fieldLink "EvenFerry" 310 "EvenFerry$Choices" "known" "Z" ∈ am_big := wl8_m 25 rfl
theorem wd_530 : Cond.fieldLink "EvenFerry" 313 "EvenFerry$Lots" "known" "Z" ∈ am_big := wl8_m 26 rfl
theorem wd_531 : Cond.instanceMethod yX3_isWaitingBehind ∈ am_big := wl8_m 27 rfl
theorem wd_532 : Cond.selects "EvenFerry$Day" yX3_isWaitingBehind yX3_isWaitingBehind ∈ am_big := wl8_m 28 rfl
theorem wd_533 : Cond.methodLink "EvenFerry" 314 yX3_isWaitingBehind ∈ am_big := wl8_m 29 rfl
theorem wd_534 : Cond.instanceMethod yX9_waitsAt ∈ am_big := wl8_m 30 rfl
theorem wd_535 : Cond.selects "EvenFerry" yX9_waitsAt yX9_waitsAt ∈ am_big := wl8_m 31 rfl
theorem wd_536 : Cond.methodLink "EvenFerry" 317 yX9_waitsAt ∈ am_big := wl8_m 32 rfl
theorem wd_537 : Cond.instanceMethod yX3_letGoHome ∈ am_big := wl8_m 33 rfl
theorem wd_538 : Cond.selects "EvenFerry$Day" yX3_letGoHome yX3_letGoHome ∈ am_big := wl8_m 34 rfl
theorem wd_539 : Cond.methodLink "EvenFerry" 320 yX3_letGoHome ∈ am_big := wl8_m 35 rfl
theorem wd_540 : Cond.fieldLink "EvenFerry" 324 "EvenFerry$River" "first" "I" ∈ am_big := wl8_m 36 rfl
theorem wd_541 : Cond.methodLink "EvenFerryModel" 1 Lib.objectInit ∈ am_big := wl8_m 37 rfl
theorem wd_542 : Cond.fieldLink "EvenFerryModel" 7 "EvenFerryModel" "tape" "[I" ∈ am_big := wl8_m 38 rfl
theorem wd_543 : Cond.fieldLink "EvenFerryModel" 13 "EvenFerryModel" "river" "[I" ∈ am_big := wl8_m 39 rfl
theorem wd_544 : Cond.fieldLink "EvenFerryModel" 16 "EvenFerryModel" "lineFrom" "[I" ∈ am_big := wl8_m 40 rfl
theorem wd_545 : Cond.fieldLink "EvenFerryModel" 19 "EvenFerryModel" "lineTo" "[I" ∈ am_big := wl8_m 41 rfl
theorem wd_546 : Cond.fieldLink "EvenFerryModel" 22 "EvenFerryModel" "codes" "[I" ∈ am_big := wl8_m 42 rfl
theorem wd_547 : Cond.fieldLink "EvenFerryModel" 25 "EvenFerryModel" "names" "[J" ∈ am_big := wl8_m 43 rfl
theorem wd_548 : Cond.fieldLink "EvenFerryModel" 29 "EvenFerryModel" "sideOf" "[I" ∈ am_big := wl8_m 44 rfl
theorem wd_549 : Cond.fieldLink "EvenFerryModel" 32 "EvenFerryModel" "atOf" "[I" ∈ am_big := wl8_m 45 rfl
theorem wd_550 : Cond.fieldLink "EvenFerryModel" 35 "EvenFerryModel" "weightOf" "[I" ∈ am_big := wl8_m 46 rfl
theorem wd_551 : Cond.fieldLink "EvenFerryModel" 38 "EvenFerryModel" "costOf" "[I" ∈ am_big := wl8_m 47 rfl
theorem wd_552 : Cond.fieldLink "EvenFerryModel" 41 "EvenFerryModel" "kindOf" "[I" ∈ am_big := wl8_m 48 rfl
theorem wd_553 : Cond.fieldLink "EvenFerryModel" 44 "EvenFerryModel" "tellAt" "[I" ∈ am_big := wl8_m 49 rfl
theorem wd_554 : Cond.fieldLink "EvenFerryModel" 47 "EvenFerryModel" "opened" "[I" ∈ am_big := wl8_m 50 rfl
theorem wd_555 : Cond.fieldLink "EvenFerryModel" 50 "EvenFerryModel" "compared" "[Z" ∈ am_big := wl8_m 51 rfl
theorem wd_556 : Cond.fieldLink "EvenFerryModel" 54 "EvenFerryModel" "kept" "[I" ∈ am_big := wl8_m 52 rfl
theorem wd_557 : Cond.fieldLink "EvenFerryModel" 57 "EvenFerryModel" "keptBy" "[I" ∈ am_big := wl8_m 53 rfl
theorem wd_558 : Cond.fieldLink "EvenFerryModel" 60 "EvenFerryModel" "ahead" "[I" ∈ am_big := wl8_m 54 rfl
theorem wd_559 : Cond.fieldLink "EvenFerryModel" 63 "EvenFerryModel" "against" "[I" ∈ am_big := wl8_m 55 rfl
theorem wd_560 : Cond.fieldLink "EvenFerryModel" 66 "EvenFerryModel" "sum" "[I" ∈ am_big := wl8_m 56 rfl
theorem wd_561 : Cond.fieldLink "EvenFerryModel" 69 "EvenFerryModel" "sumBy" "[I" ∈ am_big := wl8_m 57 rfl
theorem wd_562 : Cond.fieldLink "EvenFerryModel" 72 "EvenFerryModel" "term" "[I" ∈ am_big := wl8_m 58 rfl
theorem wd_563 : Cond.fieldLink "EvenFerryModel" 75 "EvenFerryModel" "termBy" "[I" ∈ am_big := wl8_m 59 rfl
def wl9 : List Cond := [Cond.fieldLink "EvenFerryModel" 78 "EvenFerryModel" "byNot" "[I", Cond.fieldLink "EvenFerryModel" 81 "EvenFerryModel" "valueOf" "[I", Cond.fieldLink "EvenFerryModel" 84 "EvenFerryModel" "side" "[I", Cond.fieldLink "EvenFerryModel" 87 "EvenFerryModel" "at" "[I", Cond.fieldLink "EvenFerryModel" 90 "EvenFerryModel" "weight" "[I", Cond.fieldLink "EvenFerryModel" 93 "EvenFerryModel" "cost" "[I", Cond.fieldLink "EvenFerryModel" 96 "EvenFerryModel" "counts" "[I", Cond.fieldLink "EvenFerryModel" 99 "EvenFerryModel" "gone" "[I", Cond.fieldLink "EvenFerryModel" 102 "EvenFerryModel" "goesBy" "[I", Cond.fieldLink "EvenFerryModel" 105 "EvenFerryModel" "ringAt" "[I", Cond.fieldLink "EvenFerryModel" 108 "EvenFerryModel" "ringLeft" "[I", Cond.fieldLink "EvenFerryModel" 111 "EvenFerryModel" "ringRight" "[I", Cond.fieldLink "EvenFerryModel" 114 "EvenFerryModel" "choiceCost" "[I", Cond.fieldLink "EvenFerryModel" 117 "EvenFerryModel" "own" "[I", Cond.fieldLink "EvenFerryModel" 120 "EvenFerryModel" "isLaid" "[Z", Cond.instanceMethod yX10_starts0, Cond.selects "EvenFerryModel" yX10_starts0 yX10_starts0, Cond.methodLink "EvenFerryModel" 123 yX10_starts0, Cond.arrayClass .boolean, Cond.fieldLink "EvenFerryModel" 127 "EvenFerryModel" "thrown" "I", Cond.fieldLink "EvenFerryModel" 133 "EvenFerryModel" "taped" "I", Cond.constantLong "EvenFerryModel" 131 255, Cond.fieldLink "EvenFerryModel" 136 "EvenFerryModel" "size" "I", Cond.fieldLink "EvenFerryModel" 139 "EvenFerryModel" "place" "I", Cond.fieldLink "EvenFerryModel" 142 "EvenFerryModel" "begin" "I", Cond.fieldLink "EvenFerryModel" 145 "EvenFerryModel" "word" "J", Cond.fieldLink "EvenFerryModel" 149 "EvenFerryModel" "told" "I", Cond.fieldLink "EvenFerryModel" 152 "EvenFerryModel" "token" "I", Cond.instanceMethod yX10_signAt, Cond.selects "EvenFerryModel" yX10_signAt yX10_signAt, Cond.methodLink "EvenFerryModel" 155 yX10_signAt, Cond.constantLong "EvenFerryModel" 159 27, Cond.constantLong "EvenFerryModel" 161 96, Cond.fieldLink "EvenFerryModel" 163 "EvenFerryModel" "wrong" "I", Cond.fieldLink "EvenFerryModel" 166 "EvenFerryModel" "code" "I", Cond.constantLong "EvenFerryModel" 169 240023, Cond.constantLong "EvenFerryModel" 171 9748424, Cond.constantLong "EvenFerryModel" 173 6624454, Cond.constantLong "EvenFerryModel" 175 9813100, Cond.constantLong "EvenFerryModel" 177 453701, Cond.constantLong "EvenFerryModel" 179 191610176, Cond.instanceMethod yX10_isSign, Cond.selects "EvenFerryModel" yX10_isSign yX10_isSign, Cond.methodLink "EvenFerryModel" 191 yX10_isSign, Cond.instanceMethod yX10_fact, Cond.selects "EvenFerryModel" yX10_fact yX10_fact, Cond.methodLink "EvenFerryModel" 181 yX10_fact, Cond.constantLong "EvenFerryModel" 185 10631, Cond.instanceMethod yX10_isWord, Cond.selects "EvenFerryModel" yX10_isWord yX10_isWord, Cond.methodLink "EvenFerryModel" 187 yX10_isWord, Cond.instanceMethod yX10_fails, Cond.selects "EvenFerryModel" yX10_fails yX10_fails, Cond.methodLink "EvenFerryModel" 195 yX10_fails, Cond.constantLong "EvenFerryModel" 204 1111, Cond.constantLong "EvenFerryModel" 206 423, Cond.instanceMethod yX10_puts, Cond.selects "EvenFerryModel" yX10_puts yX10_puts, Cond.methodLink "EvenFerryModel" 198 yX10_puts, Cond.instanceMethod yX10_nextToken]
set_option maxRecDepth 100000 in
theorem wl9_e : wl9 = [1302, 1303, 1306, 1307, 1308, 1309, 1310, 1311, 1312, 1314, 1315, 1316, 1320, 1321, 1323, 1267, 45, 1265, 1435, 1269, 1270, 1444, 1272, 1273, 1274, 1276, 1277, 1275, 1459, 48, 1457, 1461, 1462, 1278, 1290, 1518, 1519, 1520, 1521, 1522, 1523, 1489, 54, 1487, 1516, 59, 1514, 1524, 1466, 49, 1464, 1474, 51, 1472, 1529, 1530, 1527, 60, 1525, 1455].filterMap (fun i => lw_tbl[i]?) := by decide +kernel
set_option maxRecDepth 100000 in
theorem wl9_g : wl9.all goodWord = true := by decide +kernel
theorem wl9_m {x : Cond} (i : Nat) (h : wl9[i]? = some x) : x ∈ am_big := am_wl wl9_e wl9_g (List.mem_of_getElem? h)
theorem wd_564 : Cond.fieldLink "EvenFerryModel" 78 "EvenFerryModel" "byNot" "[I" ∈ am_big := wl9_m 0 rfl
theorem wd_565 : Cond.fieldLink "EvenFerryModel" 81 "EvenFerryModel" "valueOf" "[I" ∈ am_big := wl9_m 1 rfl
theorem wd_566 : Cond.fieldLink "EvenFerryModel" 84 "EvenFerryModel" "side" "[I" ∈ am_big := wl9_m 2 rfl
theorem wd_567 : Cond.fieldLink "EvenFerryModel" 87 "EvenFerryModel" "at" "[I" ∈ am_big := wl9_m 3 rfl
theorem wd_568 : Cond.fieldLink "EvenFerryModel" 90 "EvenFerryModel" "weight" "[I" ∈ am_big := wl9_m 4 rfl
theorem wd_569 : Cond.fieldLink "EvenFerryModel" 93 "EvenFerryModel" "cost" "[I" ∈ am_big := wl9_m 5 rfl
theorem wd_570 : Cond.fieldLink "EvenFerryModel" 96 "EvenFerryModel" "counts" "[I" ∈ am_big := wl9_m 6 rfl
theorem wd_571 : Cond.fieldLink "EvenFerryModel" 99 "EvenFerryModel" "gone" "[I" ∈ am_big := wl9_m 7 rfl
theorem wd_572 : Cond.fieldLink "EvenFerryModel" 102 "EvenFerryModel" "goesBy" "[I" ∈ am_big := wl9_m 8 rfl
theorem wd_573 : Cond.fieldLink "EvenFerryModel" 105 "EvenFerryModel" "ringAt" "[I" ∈ am_big := wl9_m 9 rfl
theorem wd_574 : Cond.fieldLink "EvenFerryModel" 108 "EvenFerryModel" "ringLeft" "[I" ∈ am_big := wl9_m 10 rfl
theorem wd_575 : Cond.fieldLink "EvenFerryModel" 111 "EvenFerryModel" "ringRight" "[I" ∈ am_big := wl9_m 11 rfl
theorem wd_576 : Cond.fieldLink "EvenFerryModel" 114 "EvenFerryModel" "choiceCost" "[I" ∈ am_big := wl9_m 12 rfl
theorem wd_577 : Cond.fieldLink "EvenFerryModel" 117 "EvenFerryModel" "own" "[I" ∈ am_big := wl9_m 13 rfl
theorem wd_578 : Cond.fieldLink "EvenFerryModel" 120 "EvenFerryModel" "isLaid" "[Z" ∈ am_big := wl9_m 14 rfl
theorem wd_579 : Cond.instanceMethod yX10_starts0 ∈ am_big := wl9_m 15 rfl
theorem wd_580 : Cond.selects "EvenFerryModel" yX10_starts0 yX10_starts0 ∈ am_big := wl9_m 16 rfl
theorem wd_581 : Cond.methodLink "EvenFerryModel" 123 yX10_starts0 ∈ am_big := wl9_m 17 rfl
theorem wd_582 : Cond.arrayClass .boolean ∈ am_big := wl9_m 18 rfl
theorem wd_583 : Cond.fieldLink "EvenFerryModel" 127 "EvenFerryModel" "thrown" "I" ∈ am_big := wl9_m 19 rfl
theorem wd_584 : Cond.fieldLink "EvenFerryModel" 133 "EvenFerryModel" "taped" "I" ∈ am_big := wl9_m 20 rfl
theorem wd_585 : Cond.constantLong "EvenFerryModel" 131 255 ∈ am_big := wl9_m 21 rfl
theorem wd_586 : Cond.fieldLink "EvenFerryModel" 136 "EvenFerryModel" "size" "I" ∈ am_big := wl9_m 22 rfl
theorem wd_587 : Cond.fieldLink "EvenFerryModel" 139 "EvenFerryModel" "place" "I" ∈ am_big := wl9_m 23 rfl
theorem wd_588 : Cond.fieldLink "EvenFerryModel" 142 "EvenFerryModel" "begin" "I" ∈ am_big := wl9_m 24 rfl
theorem wd_589 : Cond.fieldLink "EvenFerryModel" 145 "EvenFerryModel" "word" "J" ∈ am_big := wl9_m 25 rfl
theorem wd_590 : Cond.fieldLink "EvenFerryModel" 149 "EvenFerryModel" "told" "I" ∈ am_big := wl9_m 26 rfl
theorem wd_591 : Cond.fieldLink "EvenFerryModel" 152 "EvenFerryModel" "token" "I" ∈ am_big := wl9_m 27 rfl
theorem wd_592 : Cond.instanceMethod yX10_signAt ∈ am_big := wl9_m 28 rfl
theorem wd_593 : Cond.selects "EvenFerryModel" yX10_signAt yX10_signAt ∈ am_big := wl9_m 29 rfl
theorem wd_594 : Cond.methodLink "EvenFerryModel" 155 yX10_signAt ∈ am_big := wl9_m 30 rfl
theorem wd_595 : Cond.constantLong "EvenFerryModel" 159 27 ∈ am_big := wl9_m 31 rfl
theorem wd_596 : Cond.constantLong "EvenFerryModel" 161 96 ∈ am_big := wl9_m 32 rfl
theorem wd_597 : Cond.fieldLink "EvenFerryModel" 163 "EvenFerryModel" "wrong" "I" ∈ am_big := wl9_m 33 rfl
theorem wd_598 : Cond.fieldLink "EvenFerryModel" 166 "EvenFerryModel" "code" "I" ∈ am_big := wl9_m 34 rfl
theorem wd_599 : Cond.constantLong "EvenFerryModel" 169 240023 ∈ am_big := wl9_m 35 rfl
theorem wd_600 : Cond.constantLong "EvenFerryModel" 171 9748424 ∈ am_big := wl9_m 36 rfl
theorem wd_601 : Cond.constantLong "EvenFerryModel" 173 6624454 ∈ am_big := wl9_m 37 rfl
theorem wd_602 : Cond.constantLong "EvenFerryModel" 175 9813100 ∈ am_big := wl9_m 38 rfl
theorem wd_603 : Cond.constantLong "EvenFerryModel" 177 453701 ∈ am_big := wl9_m 39 rfl
theorem wd_604 : Cond.constantLong "EvenFerryModel" 179 191610176 ∈ am_big := wl9_m 40 rfl
theorem wd_605 : Cond.instanceMethod yX10_isSign ∈ am_big := wl9_m 41 rfl
theorem wd_606 : Cond.selects "EvenFerryModel" yX10_isSign yX10_isSign ∈ am_big := wl9_m 42 rfl
theorem wd_607 : Cond.methodLink "EvenFerryModel" 191 yX10_isSign ∈ am_big := wl9_m 43 rfl
theorem wd_608 : Cond.instanceMethod yX10_fact ∈ am_big := wl9_m 44 rfl
theorem wd_609 : Cond.selects "EvenFerryModel" yX10_fact yX10_fact ∈ am_big := wl9_m 45 rfl
theorem wd_610 : Cond.methodLink "EvenFerryModel" 181 yX10_fact ∈ am_big := wl9_m 46 rfl
theorem wd_611 : Cond.constantLong "EvenFerryModel" 185 10631 ∈ am_big := wl9_m 47 rfl
theorem wd_612 : Cond.instanceMethod yX10_isWord ∈ am_big := wl9_m 48 rfl
theorem wd_613 : Cond.selects "EvenFerryModel" yX10_isWord yX10_isWord ∈ am_big := wl9_m 49 rfl
theorem wd_614 : Cond.methodLink "EvenFerryModel" 187 yX10_isWord ∈ am_big := wl9_m 50 rfl
theorem wd_615 : Cond.instanceMethod yX10_fails ∈ am_big := wl9_m 51 rfl
theorem wd_616 : Cond.selects "EvenFerryModel" yX10_fails yX10_fails ∈ am_big := wl9_m 52 rfl
theorem wd_617 : Cond.methodLink "EvenFerryModel" 195 yX10_fails ∈ am_big := wl9_m 53 rfl
theorem wd_618 : Cond.constantLong "EvenFerryModel" 204 1111 ∈ am_big := wl9_m 54 rfl
theorem wd_619 : Cond.constantLong "EvenFerryModel" 206 423 ∈ am_big := wl9_m 55 rfl
theorem wd_620 : Cond.instanceMethod yX10_puts ∈ am_big := wl9_m 56 rfl
theorem wd_621 : Cond.selects "EvenFerryModel" yX10_puts yX10_puts ∈ am_big := wl9_m 57 rfl
theorem wd_622 : Cond.methodLink "EvenFerryModel" 198 yX10_puts ∈ am_big := wl9_m 58 rfl
theorem wd_623 : Cond.instanceMethod yX10_nextToken ∈ am_big := wl9_m 59 rfl
def wl10 : List Cond := [Cond.selects "EvenFerryModel" yX10_nextToken yX10_nextToken, Cond.methodLink "EvenFerryModel" 201 yX10_nextToken, Cond.instanceMethod yX10_sums, Cond.selects "EvenFerryModel" yX10_sums yX10_sums, Cond.methodLink "EvenFerryModel" 208 yX10_sums, Cond.instanceMethod yX10_opens, Cond.selects "EvenFerryModel" yX10_opens yX10_opens, Cond.methodLink "EvenFerryModel" 211 yX10_opens, Cond.instanceMethod yX10_tests, Cond.selects "EvenFerryModel" yX10_tests yX10_tests, Cond.methodLink "EvenFerryModel" 214 yX10_tests, Cond.constantLong "EvenFerryModel" 217 365647, Cond.constantLong "EvenFerryModel" 219 407041, Cond.constantLong "EvenFerryModel" 221 1359415, Cond.constantLong "EvenFerryModel" 223 380651, Cond.constantLong "EvenFerryModel" 225 411, Cond.constantLong "EvenFerryModel" 227 70340, Cond.constantLong "EvenFerryModel" 229 8798, Cond.constantLong "EvenFerryModel" 231 232608281, Cond.constantLong "EvenFerryModel" 233 47, Cond.constantLong "EvenFerryModel" 235 332864552, Cond.constantLong "EvenFerryModel" 237 70517, Cond.constantLong "EvenFerryModel" 239 8740238, Cond.constantLong "EvenFerryModel" 241 3328, Cond.constantLong "EvenFerryModel" 243 1758676, Cond.constantLong "EvenFerryModel" 245 60284, Cond.constantLong "EvenFerryModel" 247 298503054, Cond.constantLong "EvenFerryModel" 249 1285333587, Cond.methodLink "EvenFerryModel" 251 yX10_within, Cond.static yX10_within, Cond.fieldLink "EvenFerryModel" 255 "EvenFerryModel" "given" "I", Cond.fieldLink "EvenFerryModel" 258 "EvenFerryModel" "isTold" "I", Cond.instanceMethod yX10_needsNumber, Cond.selects "EvenFerryModel" yX10_needsNumber yX10_needsNumber, Cond.methodLink "EvenFerryModel" 261 yX10_needsNumber, Cond.instanceMethod yX10_ends, Cond.selects "EvenFerryModel" yX10_ends yX10_ends, Cond.methodLink "EvenFerryModel" 265 yX10_ends, Cond.instanceMethod yX10_needsWord, Cond.selects "EvenFerryModel" yX10_needsWord yX10_needsWord, Cond.methodLink "EvenFerryModel" 269 yX10_needsWord, Cond.methodLink "EvenFerryModel" 272 Lib.Math.max.name, Cond.instanceMethod yX10_reads, Cond.selects "EvenFerryModel" yX10_reads yX10_reads, Cond.methodLink "EvenFerryModel" 278 yX10_reads, Cond.instanceMethod yX10_isKept, Cond.selects "EvenFerryModel" yX10_isKept yX10_isKept, Cond.methodLink "EvenFerryModel" 281 yX10_isKept, Cond.instanceMethod yX10_kindAt, Cond.selects "EvenFerryModel" yX10_kindAt yX10_kindAt, Cond.methodLink "EvenFerryModel" 284 yX10_kindAt, Cond.instanceMethod yX10_choosers, Cond.selects "EvenFerryModel" yX10_choosers yX10_choosers, Cond.methodLink "EvenFerryModel" 287 yX10_choosers, Cond.instanceMethod yX10_readsPerson, Cond.selects "EvenFerryModel" yX10_readsPerson yX10_readsPerson, Cond.methodLink "EvenFerryModel" 299 yX10_readsPerson, Cond.instanceMethod yX10_readsLaw, Cond.selects "EvenFerryModel" yX10_readsLaw yX10_readsLaw, Cond.methodLink "EvenFerryModel" 296 yX10_readsLaw]
set_option maxRecDepth 100000 in
theorem wl10_e : wl10 = [47, 1453, 1622, 76, 1620, 1618, 75, 1616, 1626, 77, 1624, 1463, 1491, 1492, 1493, 1498, 1504, 1505, 1531, 1540, 1541, 1542, 1543, 1544, 1545, 1546, 1547, 1548, 1480, 1481, 1304, 1291, 1478, 52, 1476, 1485, 53, 1483, 1501, 56, 1499, 1503, 1512, 58, 1510, 1538, 62, 1536, 1551, 63, 1549, 1555, 64, 1553, 1534, 61, 1532, 1508, 57, 1506].filterMap (fun i => lw_tbl[i]?) := by decide +kernel
set_option maxRecDepth 100000 in
theorem wl10_g : wl10.all goodWord = true := by decide +kernel
theorem wl10_m {x : Cond} (i : Nat) (h : wl10[i]? = some x) : x ∈ am_big := am_wl wl10_e wl10_g (List.mem_of_getElem? h)
theorem wd_624 : Cond.selects "EvenFerryModel" yX10_nextToken yX10_nextToken ∈ am_big := wl10_m 0 rfl
theorem wd_625 : Cond.methodLink "EvenFerryModel" 201 yX10_nextToken ∈ am_big := wl10_m 1 rfl
theorem wd_626 : Cond.instanceMethod yX10_sums ∈ am_big := wl10_m 2 rfl
theorem wd_627 : Cond.selects "EvenFerryModel" yX10_sums yX10_sums ∈ am_big := wl10_m 3 rfl
theorem wd_628 : Cond.methodLink "EvenFerryModel" 208 yX10_sums ∈ am_big := wl10_m 4 rfl
theorem wd_629 : Cond.instanceMethod yX10_opens ∈ am_big := wl10_m 5 rfl
theorem wd_630 : Cond.selects "EvenFerryModel" yX10_opens yX10_opens ∈ am_big := wl10_m 6 rfl
theorem wd_631 : Cond.methodLink "EvenFerryModel" 211 yX10_opens ∈ am_big := wl10_m 7 rfl
theorem wd_632 : Cond.instanceMethod yX10_tests ∈ am_big := wl10_m 8 rfl
theorem wd_633 : Cond.selects "EvenFerryModel" yX10_tests yX10_tests ∈ am_big := wl10_m 9 rfl
theorem wd_634 : Cond.methodLink "EvenFerryModel" 214 yX10_tests ∈ am_big := wl10_m 10 rfl
theorem wd_635 : Cond.constantLong "EvenFerryModel" 217 365647 ∈ am_big := wl10_m 11 rfl
theorem wd_636 : Cond.constantLong "EvenFerryModel" 219 407041 ∈ am_big := wl10_m 12 rfl
theorem wd_637 : Cond.constantLong "EvenFerryModel" 221 1359415 ∈ am_big := wl10_m 13 rfl
theorem wd_638 : Cond.constantLong "EvenFerryModel" 223 380651 ∈ am_big := wl10_m 14 rfl
theorem wd_639 : Cond.constantLong "EvenFerryModel" 225 411 ∈ am_big := wl10_m 15 rfl
theorem wd_640 : Cond.constantLong "EvenFerryModel" 227 70340 ∈ am_big := wl10_m 16 rfl
theorem wd_641 : Cond.constantLong "EvenFerryModel" 229 8798 ∈ am_big := wl10_m 17 rfl
theorem wd_642 : Cond.constantLong "EvenFerryModel" 231 232608281 ∈ am_big := wl10_m 18 rfl
theorem wd_643 : Cond.constantLong "EvenFerryModel" 233 47 ∈ am_big := wl10_m 19 rfl
theorem wd_644 : Cond.constantLong "EvenFerryModel" 235 332864552 ∈ am_big := wl10_m 20 rfl
theorem wd_645 : Cond.constantLong "EvenFerryModel" 237 70517 ∈ am_big := wl10_m 21 rfl
theorem wd_646 : Cond.constantLong "EvenFerryModel" 239 8740238 ∈ am_big := wl10_m 22 rfl
theorem wd_647 : Cond.constantLong "EvenFerryModel" 241 3328 ∈ am_big := wl10_m 23 rfl
theorem wd_648 : Cond.constantLong "EvenFerryModel" 243 1758676 ∈ am_big := wl10_m 24 rfl
theorem wd_649 : Cond.constantLong "EvenFerryModel" 245 60284 ∈ am_big := wl10_m 25 rfl
theorem wd_650 : Cond.constantLong "EvenFerryModel" 247 298503054 ∈ am_big := wl10_m 26 rfl
theorem wd_651 : Cond.constantLong "EvenFerryModel" 249 1285333587 ∈ am_big := wl10_m 27 rfl
theorem wd_652 : Cond.methodLink "EvenFerryModel" 251 yX10_within ∈ am_big := wl10_m 28 rfl
theorem wd_653 : Cond.static yX10_within ∈ am_big := wl10_m 29 rfl
theorem wd_654 : Cond.fieldLink "EvenFerryModel" 255 "EvenFerryModel" "given" "I" ∈ am_big := wl10_m 30 rfl
theorem wd_655 : Cond.fieldLink "EvenFerryModel" 258 "EvenFerryModel" "isTold" "I" ∈ am_big := wl10_m 31 rfl
theorem wd_656 : Cond.instanceMethod yX10_needsNumber ∈ am_big := wl10_m 32 rfl
theorem wd_657 : Cond.selects "EvenFerryModel" yX10_needsNumber yX10_needsNumber ∈ am_big := wl10_m 33 rfl
theorem wd_658 : Cond.methodLink "EvenFerryModel" 261 yX10_needsNumber ∈ am_big := wl10_m 34 rfl
theorem wd_659 : Cond.instanceMethod yX10_ends ∈ am_big := wl10_m 35 rfl
theorem wd_660 : Cond.selects "EvenFerryModel" yX10_ends yX10_ends ∈ am_big := wl10_m 36 rfl
theorem wd_661 : Cond.methodLink "EvenFerryModel" 265 yX10_ends ∈ am_big := wl10_m 37 rfl
theorem wd_662 : Cond.instanceMethod yX10_needsWord ∈ am_big := wl10_m 38 rfl
theorem wd_663 : Cond.selects "EvenFerryModel" yX10_needsWord yX10_needsWord ∈ am_big := wl10_m 39 rfl
theorem wd_664 : Cond.methodLink "EvenFerryModel" 269 yX10_needsWord ∈ am_big := wl10_m 40 rfl
theorem wd_665 : Cond.methodLink "EvenFerryModel" 272 Lib.Math.max.name ∈ am_big := wl10_m 41 rfl
theorem wd_666 : Cond.instanceMethod yX10_reads ∈ am_big := wl10_m 42 rfl
theorem wd_667 : Cond.selects "EvenFerryModel" yX10_reads yX10_reads ∈ am_big := wl10_m 43 rfl
theorem wd_668 : Cond.methodLink "EvenFerryModel" 278 yX10_reads ∈ am_big := wl10_m 44 rfl
theorem wd_669 : Cond.instanceMethod yX10_isKept ∈ am_big := wl10_m 45 rfl
theorem wd_670 : Cond.selects "EvenFerryModel" yX10_isKept yX10_isKept ∈ am_big := wl10_m 46 rfl
theorem wd_671 : Cond.methodLink "EvenFerryModel" 281 yX10_isKept ∈ am_big := wl10_m 47 rfl
theorem wd_672 : Cond.instanceMethod yX10_kindAt ∈ am_big := wl10_m 48 rfl
theorem wd_673 : Cond.selects "EvenFerryModel" yX10_kindAt yX10_kindAt ∈ am_big := wl10_m 49 rfl
theorem wd_674 : Cond.methodLink "EvenFerryModel" 284 yX10_kindAt ∈ am_big := wl10_m 50 rfl
theorem wd_675 : Cond.instanceMethod yX10_choosers ∈ am_big := wl10_m 51 rfl
theorem wd_676 : Cond.selects "EvenFerryModel" yX10_choosers yX10_choosers ∈ am_big := wl10_m 52 rfl
theorem wd_677 : Cond.methodLink "EvenFerryModel" 287 yX10_choosers ∈ am_big := wl10_m 53 rfl
theorem wd_678 : Cond.instanceMethod yX10_readsPerson ∈ am_big := wl10_m 54 rfl
theorem wd_679 : Cond.selects "EvenFerryModel" yX10_readsPerson yX10_readsPerson ∈ am_big := wl10_m 55 rfl
theorem wd_680 : Cond.methodLink "EvenFerryModel" 299 yX10_readsPerson ∈ am_big := wl10_m 56 rfl
theorem wd_681 : Cond.instanceMethod yX10_readsLaw ∈ am_big := wl10_m 57 rfl
theorem wd_682 : Cond.selects "EvenFerryModel" yX10_readsLaw yX10_readsLaw ∈ am_big := wl10_m 58 rfl
theorem wd_683 : Cond.methodLink "EvenFerryModel" 296 yX10_readsLaw ∈ am_big := wl10_m 59 rfl
def wl11 : List Cond := [Cond.instanceMethod yX10_readsOne, Cond.selects "EvenFerryModel" yX10_readsOne yX10_readsOne, Cond.methodLink "EvenFerryModel" 290 yX10_readsOne, Cond.instanceMethod yX10_readsSide, Cond.selects "EvenFerryModel" yX10_readsSide yX10_readsSide, Cond.methodLink "EvenFerryModel" 293 yX10_readsSide, Cond.methodLink "EvenFerryModel" 302 yX10_moves, Cond.static yX10_moves, Cond.instanceMethod yX10_readsAll, Cond.selects "EvenFerryModel" yX10_readsAll yX10_readsAll, Cond.methodLink "EvenFerryModel" 306 yX10_readsAll, Cond.instanceMethod yX10_lays, Cond.selects "EvenFerryModel" yX10_lays yX10_lays, Cond.methodLink "EvenFerryModel" 309 yX10_lays, Cond.instanceMethod yX10_isPerson, Cond.selects "EvenFerryModel" yX10_isPerson yX10_isPerson, Cond.methodLink "EvenFerryModel" 313 yX10_isPerson, Cond.methodLink "EvenFerryModel" 316 yX10_countOf, Cond.static yX10_countOf, Cond.fieldLink "EvenFerryModel" 319 "EvenFerryModel" "people" "I", Cond.fieldLink "EvenFerryModel" 322 "EvenFerryModel" "rings" "I", Cond.fieldLink "EvenFerryModel" 325 "EvenFerryModel" "boat0" "I", Cond.fieldLink "EvenFerryModel" 329 "EvenFerryModel" "boat1" "I", Cond.fieldLink "EvenFerryModel" 332 "EvenFerryModel" "law" "I", Cond.constant "EvenFerryModel" 328 100000, Cond.instanceMethod yX10_dawns, Cond.selects "EvenFerryModel" yX10_dawns yX10_dawns, Cond.methodLink "EvenFerryModel" 335 yX10_dawns, Cond.instanceMethod yX10_joins, Cond.selects "EvenFerryModel" yX10_joins yX10_joins, Cond.methodLink "EvenFerryModel" 338 yX10_joins, Cond.instanceMethod yX10_worked, Cond.selects "EvenFerryModel" yX10_worked yX10_worked, Cond.methodLink "EvenFerryModel" 345 yX10_worked, Cond.instanceMethod yX10_isWaiting, Cond.selects "EvenFerryModel" yX10_isWaiting yX10_isWaiting, Cond.methodLink "EvenFerryModel" 342 yX10_isWaiting, Cond.instanceMethod yX10_firstOf, Cond.selects "EvenFerryModel" yX10_firstOf yX10_firstOf, Cond.methodLink "EvenFerryModel" 348 yX10_firstOf, Cond.instanceMethod yX10_leaves, Cond.selects "EvenFerryModel" yX10_leaves yX10_leaves, Cond.methodLink "EvenFerryModel" 351 yX10_leaves, Cond.instanceMethod yX10_wouldRing, Cond.selects "EvenFerryModel" yX10_wouldRing yX10_wouldRing, Cond.methodLink "EvenFerryModel" 354 yX10_wouldRing, Cond.instanceMethod yX10_ringsOnce, Cond.selects "EvenFerryModel" yX10_ringsOnce yX10_ringsOnce, Cond.methodLink "EvenFerryModel" 357 yX10_ringsOnce, Cond.instanceMethod yX10_tellsAll, Cond.selects "EvenFerryModel" yX10_tellsAll yX10_tellsAll, Cond.methodLink "EvenFerryModel" 360 yX10_tellsAll, Cond.instanceMethod yX10_goesOn, Cond.selects "EvenFerryModel" yX10_goesOn yX10_goesOn, Cond.methodLink "EvenFerryModel" 363 yX10_goesOn, Cond.instanceMethod yX10_waitOf, Cond.selects "EvenFerryModel" yX10_waitOf yX10_waitOf, Cond.methodLink "EvenFerryModel" 366 yX10_waitOf, Cond.instanceMethod yX10_day, Cond.selects "EvenFerryModel" yX10_day yX10_day]
set_option maxRecDepth 100000 in
theorem wl11_e : wl11 = [1470, 50, 1468, 1496, 55, 1494, 1561, 1562, 1451, 46, 1449, 1559, 65, 1557, 1570, 66, 1568, 1572, 1573, 1305, 1313, 1317, 1318, 1319, 1595, 1593, 69, 1591, 1598, 70, 1596, 1614, 74, 1612, 1610, 73, 1608, 1638, 80, 1636, 1634, 79, 1632, 1606, 72, 1604, 1630, 78, 1628, 1589, 68, 1587, 1602, 71, 1600, 1650, 81, 1648, 1585, 67].filterMap (fun i => lw_tbl[i]?) := by decide +kernel
set_option maxRecDepth 100000 in
theorem wl11_g : wl11.all goodWord = true := by decide +kernel
theorem wl11_m {x : Cond} (i : Nat) (h : wl11[i]? = some x) : x ∈ am_big := am_wl wl11_e wl11_g (List.mem_of_getElem? h)
theorem wd_684 : Cond.instanceMethod yX10_readsOne ∈ am_big := wl11_m 0 rfl
theorem wd_685 : Cond.selects "EvenFerryModel" yX10_readsOne yX10_readsOne ∈ am_big := wl11_m 1 rfl
theorem wd_686 : Cond.methodLink "EvenFerryModel" 290 yX10_readsOne ∈ am_big := wl11_m 2 rfl
theorem wd_687 : Cond.instanceMethod yX10_readsSide ∈ am_big := wl11_m 3 rfl
theorem wd_688 : Cond.selects "EvenFerryModel" yX10_readsSide yX10_readsSide ∈ am_big := wl11_m 4 rfl
theorem wd_689 : Cond.methodLink "EvenFerryModel" 293 yX10_readsSide ∈ am_big := wl11_m 5 rfl
theorem wd_690 : Cond.methodLink "EvenFerryModel" 302 yX10_moves ∈ am_big := wl11_m 6 rfl
theorem wd_691 : Cond.static yX10_moves ∈ am_big := wl11_m 7 rfl
theorem wd_692 : Cond.instanceMethod yX10_readsAll ∈ am_big := wl11_m 8 rfl
theorem wd_693 : Cond.selects "EvenFerryModel" yX10_readsAll yX10_readsAll ∈ am_big := wl11_m 9 rfl
theorem wd_694 : Cond.methodLink "EvenFerryModel" 306 yX10_readsAll ∈ am_big := wl11_m 10 rfl
theorem wd_695 : Cond.instanceMethod yX10_lays ∈ am_big := wl11_m 11 rfl
theorem wd_696 : Cond.selects "EvenFerryModel" yX10_lays yX10_lays ∈ am_big := wl11_m 12 rfl
theorem wd_697 : Cond.methodLink "EvenFerryModel" 309 yX10_lays ∈ am_big := wl11_m 13 rfl
theorem wd_698 : Cond.instanceMethod yX10_isPerson ∈ am_big := wl11_m 14 rfl
theorem wd_699 : Cond.selects "EvenFerryModel" yX10_isPerson yX10_isPerson ∈ am_big := wl11_m 15 rfl
theorem wd_700 : Cond.methodLink "EvenFerryModel" 313 yX10_isPerson ∈ am_big := wl11_m 16 rfl
theorem wd_701 : Cond.methodLink "EvenFerryModel" 316 yX10_countOf ∈ am_big := wl11_m 17 rfl
theorem wd_702 : Cond.static yX10_countOf ∈ am_big := wl11_m 18 rfl
theorem wd_703 : Cond.fieldLink "EvenFerryModel" 319 "EvenFerryModel" "people" "I" ∈ am_big := wl11_m 19 rfl
theorem wd_704 : Cond.fieldLink "EvenFerryModel" 322 "EvenFerryModel" "rings" "I" ∈ am_big := wl11_m 20 rfl
theorem wd_705 : Cond.fieldLink "EvenFerryModel" 325 "EvenFerryModel" "boat0" "I" ∈ am_big := wl11_m 21 rfl
theorem wd_706 : Cond.fieldLink "EvenFerryModel" 329 "EvenFerryModel" "boat1" "I" ∈ am_big := wl11_m 22 rfl
theorem wd_707 : Cond.fieldLink "EvenFerryModel" 332 "EvenFerryModel" "law" "I" ∈ am_big := wl11_m 23 rfl
theorem wd_708 : Cond.constant "EvenFerryModel" 328 100000 ∈ am_big := wl11_m 24 rfl
theorem wd_709 : Cond.instanceMethod yX10_dawns ∈ am_big := wl11_m 25 rfl
theorem wd_710 : Cond.selects "EvenFerryModel" yX10_dawns yX10_dawns ∈ am_big := wl11_m 26 rfl
theorem wd_711 : Cond.methodLink "EvenFerryModel" 335 yX10_dawns ∈ am_big := wl11_m 27 rfl
theorem wd_712 : Cond.instanceMethod yX10_joins ∈ am_big := wl11_m 28 rfl
theorem wd_713 : Cond.selects "EvenFerryModel" yX10_joins yX10_joins ∈ am_big := wl11_m 29 rfl
theorem wd_714 : Cond.methodLink "EvenFerryModel" 338 yX10_joins ∈ am_big := wl11_m 30 rfl
theorem wd_715 : Cond.instanceMethod yX10_worked ∈ am_big := wl11_m 31 rfl
theorem wd_716 : Cond.selects "EvenFerryModel" yX10_worked yX10_worked ∈ am_big := wl11_m 32 rfl
theorem wd_717 : Cond.methodLink "EvenFerryModel" 345 yX10_worked ∈ am_big := wl11_m 33 rfl
theorem wd_718 : Cond.instanceMethod yX10_isWaiting ∈ am_big := wl11_m 34 rfl
theorem wd_719 : Cond.selects "EvenFerryModel" yX10_isWaiting yX10_isWaiting ∈ am_big := wl11_m 35 rfl
theorem wd_720 : Cond.methodLink "EvenFerryModel" 342 yX10_isWaiting ∈ am_big := wl11_m 36 rfl
theorem wd_721 : Cond.instanceMethod yX10_firstOf ∈ am_big := wl11_m 37 rfl
theorem wd_722 : Cond.selects "EvenFerryModel" yX10_firstOf yX10_firstOf ∈ am_big := wl11_m 38 rfl
theorem wd_723 : Cond.methodLink "EvenFerryModel" 348 yX10_firstOf ∈ am_big := wl11_m 39 rfl
theorem wd_724 : Cond.instanceMethod yX10_leaves ∈ am_big := wl11_m 40 rfl
theorem wd_725 : Cond.selects "EvenFerryModel" yX10_leaves yX10_leaves ∈ am_big := wl11_m 41 rfl
theorem wd_726 : Cond.methodLink "EvenFerryModel" 351 yX10_leaves ∈ am_big := wl11_m 42 rfl
theorem wd_727 : Cond.instanceMethod yX10_wouldRing ∈ am_big := wl11_m 43 rfl
theorem wd_728 : Cond.selects "EvenFerryModel" yX10_wouldRing yX10_wouldRing ∈ am_big := wl11_m 44 rfl
theorem wd_729 : Cond.methodLink "EvenFerryModel" 354 yX10_wouldRing ∈ am_big := wl11_m 45 rfl
theorem wd_730 : Cond.instanceMethod yX10_ringsOnce ∈ am_big := wl11_m 46 rfl
theorem wd_731 : Cond.selects "EvenFerryModel" yX10_ringsOnce yX10_ringsOnce ∈ am_big := wl11_m 47 rfl
theorem wd_732 : Cond.methodLink "EvenFerryModel" 357 yX10_ringsOnce ∈ am_big := wl11_m 48 rfl
theorem wd_733 : Cond.instanceMethod yX10_tellsAll ∈ am_big := wl11_m 49 rfl
theorem wd_734 : Cond.selects "EvenFerryModel" yX10_tellsAll yX10_tellsAll ∈ am_big := wl11_m 50 rfl
theorem wd_735 : Cond.methodLink "EvenFerryModel" 360 yX10_tellsAll ∈ am_big := wl11_m 51 rfl
theorem wd_736 : Cond.instanceMethod yX10_goesOn ∈ am_big := wl11_m 52 rfl
theorem wd_737 : Cond.selects "EvenFerryModel" yX10_goesOn yX10_goesOn ∈ am_big := wl11_m 53 rfl
theorem wd_738 : Cond.methodLink "EvenFerryModel" 363 yX10_goesOn ∈ am_big := wl11_m 54 rfl
theorem wd_739 : Cond.instanceMethod yX10_waitOf ∈ am_big := wl11_m 55 rfl
theorem wd_740 : Cond.selects "EvenFerryModel" yX10_waitOf yX10_waitOf ∈ am_big := wl11_m 56 rfl
theorem wd_741 : Cond.methodLink "EvenFerryModel" 366 yX10_waitOf ∈ am_big := wl11_m 57 rfl
theorem wd_742 : Cond.instanceMethod yX10_day ∈ am_big := wl11_m 58 rfl
theorem wd_743 : Cond.selects "EvenFerryModel" yX10_day yX10_day ∈ am_big := wl11_m 59 rfl
def wl12 : List Cond := [Cond.methodLink "EvenFerryModel" 369 yX10_day, Cond.instanceMethod yX10_costAll, Cond.selects "EvenFerryModel" yX10_costAll yX10_costAll, Cond.methodLink "EvenFerryModel" 372 yX10_costAll, Cond.methodLink "EvenFerryModel" 375 yX10_isMinute, Cond.static yX10_isMinute, Cond.instanceMethod yX10_waitsBehind, Cond.selects "EvenFerryModel" yX10_waitsBehind yX10_waitsBehind, Cond.methodLink "EvenFerryModel" 378 yX10_waitsBehind, Cond.instanceMethod yX10_ringsBy, Cond.selects "EvenFerryModel" yX10_ringsBy yX10_ringsBy, Cond.methodLink "EvenFerryModel" 381 yX10_ringsBy, Cond.instanceMethod yX10_canTurn, Cond.selects "EvenFerryModel" yX10_canTurn yX10_canTurn, Cond.methodLink "EvenFerryModel" 384 yX10_canTurn, Cond.instanceMethod yX10_turns, Cond.selects "EvenFerryModel" yX10_turns yX10_turns, Cond.methodLink "EvenFerryModel" 387 yX10_turns, Cond.instanceMethod yX10_choices, Cond.selects "EvenFerryModel" yX10_choices yX10_choices, Cond.methodLink "EvenFerryModel" 390 yX10_choices, Cond.instanceMethod yX10_isRest, Cond.selects "EvenFerryModel" yX10_isRest yX10_isRest, Cond.methodLink "EvenFerryModel" 393 yX10_isRest, Cond.constantLong "EvenFerryModel" 396 2, Cond.methodLink "EvenFerryModel" 398 yX10_firsts, Cond.static yX10_firsts, Cond.constantLong "EvenFerryModel" 402 (-1), Cond.methodLink "EvenFerryModel" 407 yX10_gcd, Cond.static yX10_gcd, Cond.instanceMethod yX10_chance, Cond.selects "EvenFerryModel" yX10_chance yX10_chance, Cond.methodLink "EvenFerryModel" 404 yX10_chance, Cond.fieldLink "EvenFerryModel" 411 "EvenFerryModel" "g" "J", Cond.constantLong "EvenFerryModel" 414 1103515245, Cond.constantLong "EvenFerryModel" 416 12345, Cond.constantLong "EvenFerryModel" 418 2147483648, Cond.constantLong "EvenFerryModel" 420 65536, Cond.instanceMethod yX10_draws, Cond.selects "EvenFerryModel" yX10_draws yX10_draws, Cond.methodLink "EvenFerryModel" 422 yX10_draws, Cond.initialized "EvenFerry", Cond.initialized "EvenFerryModel"]
set_option maxRecDepth 100000 in
theorem wl12_e : wl12 = [1583, 1658, 82, 1656, 1664, 1665, 1669, 83, 1667, 1677, 84, 1675, 1685, 85, 1683, 1689, 86, 1687, 1701, 87, 1699, 1713, 88, 1711, 1743, 1740, 1741, 1735, 1744, 1745, 1738, 89, 1736, 1322, 1763, 1764, 1765, 1766, 1761, 90, 1759, 92, 103].filterMap (fun i => lw_tbl[i]?) := by decide +kernel
set_option maxRecDepth 100000 in
theorem wl12_g : wl12.all goodWord = true := by decide +kernel
theorem wl12_m {x : Cond} (i : Nat) (h : wl12[i]? = some x) : x ∈ am_big := am_wl wl12_e wl12_g (List.mem_of_getElem? h)
theorem wd_744 : Cond.methodLink "EvenFerryModel" 369 yX10_day ∈ am_big := wl12_m 0 rfl
theorem wd_745 : Cond.instanceMethod yX10_costAll ∈ am_big := wl12_m 1 rfl
theorem wd_746 : Cond.selects "EvenFerryModel" yX10_costAll yX10_costAll ∈ am_big := wl12_m 2 rfl
theorem wd_747 : Cond.methodLink "EvenFerryModel" 372 yX10_costAll ∈ am_big := wl12_m 3 rfl
theorem wd_748 : Cond.methodLink "EvenFerryModel" 375 yX10_isMinute ∈ am_big := wl12_m 4 rfl
theorem wd_749 : Cond.static yX10_isMinute ∈ am_big := wl12_m 5 rfl
theorem wd_750 : Cond.instanceMethod yX10_waitsBehind ∈ am_big := wl12_m 6 rfl
theorem wd_751 : Cond.selects "EvenFerryModel" yX10_waitsBehind yX10_waitsBehind ∈ am_big := wl12_m 7 rfl
theorem wd_752 : Cond.methodLink "EvenFerryModel" 378 yX10_waitsBehind ∈ am_big := wl12_m 8 rfl
theorem wd_753 : Cond.instanceMethod yX10_ringsBy ∈ am_big := wl12_m 9 rfl
theorem wd_754 : Cond.selects "EvenFerryModel" yX10_ringsBy yX10_ringsBy ∈ am_big := wl12_m 10 rfl
theorem wd_755 : Cond.methodLink "EvenFerryModel" 381 yX10_ringsBy ∈ am_big := wl12_m 11 rfl
theorem wd_756 : Cond.instanceMethod yX10_canTurn ∈ am_big := wl12_m 12 rfl
theorem wd_757 : Cond.selects "EvenFerryModel" yX10_canTurn yX10_canTurn ∈ am_big := wl12_m 13 rfl
theorem wd_758 : Cond.methodLink "EvenFerryModel" 384 yX10_canTurn ∈ am_big := wl12_m 14 rfl
theorem wd_759 : Cond.instanceMethod yX10_turns ∈ am_big := wl12_m 15 rfl
theorem wd_760 : Cond.selects "EvenFerryModel" yX10_turns yX10_turns ∈ am_big := wl12_m 16 rfl
theorem wd_761 : Cond.methodLink "EvenFerryModel" 387 yX10_turns ∈ am_big := wl12_m 17 rfl
theorem wd_762 : Cond.instanceMethod yX10_choices ∈ am_big := wl12_m 18 rfl
theorem wd_763 : Cond.selects "EvenFerryModel" yX10_choices yX10_choices ∈ am_big := wl12_m 19 rfl
theorem wd_764 : Cond.methodLink "EvenFerryModel" 390 yX10_choices ∈ am_big := wl12_m 20 rfl
theorem wd_765 : Cond.instanceMethod yX10_isRest ∈ am_big := wl12_m 21 rfl
theorem wd_766 : Cond.selects "EvenFerryModel" yX10_isRest yX10_isRest ∈ am_big := wl12_m 22 rfl
theorem wd_767 : Cond.methodLink "EvenFerryModel" 393 yX10_isRest ∈ am_big := wl12_m 23 rfl
theorem wd_768 : Cond.constantLong "EvenFerryModel" 396 2 ∈ am_big := wl12_m 24 rfl
theorem wd_769 : Cond.methodLink "EvenFerryModel" 398 yX10_firsts ∈ am_big := wl12_m 25 rfl
theorem wd_770 : Cond.static yX10_firsts ∈ am_big := wl12_m 26 rfl
theorem wd_771 : Cond.constantLong "EvenFerryModel" 402 (-1) ∈ am_big := wl12_m 27 rfl
theorem wd_772 : Cond.methodLink "EvenFerryModel" 407 yX10_gcd ∈ am_big := wl12_m 28 rfl
theorem wd_773 : Cond.static yX10_gcd ∈ am_big := wl12_m 29 rfl
theorem wd_774 : Cond.instanceMethod yX10_chance ∈ am_big := wl12_m 30 rfl
theorem wd_775 : Cond.selects "EvenFerryModel" yX10_chance yX10_chance ∈ am_big := wl12_m 31 rfl
theorem wd_776 : Cond.methodLink "EvenFerryModel" 404 yX10_chance ∈ am_big := wl12_m 32 rfl
theorem wd_777 : Cond.fieldLink "EvenFerryModel" 411 "EvenFerryModel" "g" "J" ∈ am_big := wl12_m 33 rfl
theorem wd_778 : Cond.constantLong "EvenFerryModel" 414 1103515245 ∈ am_big := wl12_m 34 rfl
theorem wd_779 : Cond.constantLong "EvenFerryModel" 416 12345 ∈ am_big := wl12_m 35 rfl
theorem wd_780 : Cond.constantLong "EvenFerryModel" 418 2147483648 ∈ am_big := wl12_m 36 rfl
theorem wd_781 : Cond.constantLong "EvenFerryModel" 420 65536 ∈ am_big := wl12_m 37 rfl
theorem wd_782 : Cond.instanceMethod yX10_draws ∈ am_big := wl12_m 38 rfl
theorem wd_783 : Cond.selects "EvenFerryModel" yX10_draws yX10_draws ∈ am_big := wl12_m 39 rfl
theorem wd_784 : Cond.methodLink "EvenFerryModel" 422 yX10_draws ∈ am_big := wl12_m 40 rfl
theorem wd_873 : Cond.initialized "EvenFerry" ∈ am_big := wl12_m 41 rfl
theorem wd_918 : Cond.initialized "EvenFerryModel" ∈ am_big := wl12_m 42 rfl
def wn0 : List Cond := [Cond.methodLinkNest "EvenFerry$Bank" 37 yX9_set "EvenFerry", Cond.methodLinkNest "EvenFerry$Bank" 45 yX9_get "EvenFerry", Cond.methodLinkNest "EvenFerry$Crowd" 35 yX9_set "EvenFerry", Cond.methodLinkNest "EvenFerry$Crowd" 41 yX9_get "EvenFerry", Cond.methodLinkNest "EvenFerry$State" 31 yX9_get "EvenFerry", Cond.methodLinkNest "EvenFerry$State" 35 yX9_set "EvenFerry", Cond.methodLinkNest "EvenFerry$State" 39 yX9_isMinute "EvenFerry", Cond.methodLinkNest "EvenFerry$River" 58 yX9_set "EvenFerry", Cond.methodLinkNest "EvenFerry$River" 79 yX9_get "EvenFerry", Cond.methodLinkNest "EvenFerry$Tape" 67 yX9_set "EvenFerry", Cond.methodLinkNest "EvenFerry$Tape" 83 yX9_get "EvenFerry", Cond.methodLinkNest "EvenFerry$Parser" 159 yX9_set "EvenFerry", Cond.methodLinkNest "EvenFerry$Day" 80 yX9_set "EvenFerry", Cond.methodLinkNest "EvenFerry$Day" 126 yX9_get "EvenFerry", Cond.methodLinkNest "EvenFerry$Lots" 123 yX9_get "EvenFerry", Cond.methodLinkNest "EvenFerry$Choices" 71 yX9_set "EvenFerry", Cond.methodLinkNest "EvenFerry$Choices" 78 yX9_get "EvenFerry", Cond.methodLinkNest "EvenFerry" 9 yX6_init "EvenFerry", Cond.methodLinkNest "EvenFerry" 12 yX8_init "EvenFerry", Cond.methodLinkNest "EvenFerry" 55 yX1_init "EvenFerry", Cond.methodLinkNest "EvenFerry" 62 yX4_init "EvenFerry"]
set_option maxRecDepth 100000 in
theorem wn0_e : wn0 = [779, 778, 713, 714, 999, 1001, 1000, 680, 834, 548, 649, 672, 765, 792, 1078, 961, 960, 34, 165, 355, 389].filterMap (fun i => tables_1[i]?) := by decide +kernel
set_option maxRecDepth 100000 in
theorem wn0_g : wn0.all am_isN = true := by decide +kernel
theorem wn0_m {x : Cond} (i : Nat) (h : wn0[i]? = some x) : x ∈ am_nest := am_wl wn0_e wn0_g (List.mem_of_getElem? h)
theorem wd_15 : Cond.methodLinkNest "EvenFerry$Bank" 37 yX9_set "EvenFerry" ∈ am_nest := wn0_m 0 rfl
theorem wd_18 : Cond.methodLinkNest "EvenFerry$Bank" 45 yX9_get "EvenFerry" ∈ am_nest := wn0_m 1 rfl
theorem wd_32 : Cond.methodLinkNest "EvenFerry$Crowd" 35 yX9_set "EvenFerry" ∈ am_nest := wn0_m 2 rfl
theorem wd_33 : Cond.methodLinkNest "EvenFerry$Crowd" 41 yX9_get "EvenFerry" ∈ am_nest := wn0_m 3 rfl
theorem wd_40 : Cond.methodLinkNest "EvenFerry$State" 31 yX9_get "EvenFerry" ∈ am_nest := wn0_m 4 rfl
theorem wd_41 : Cond.methodLinkNest "EvenFerry$State" 35 yX9_set "EvenFerry" ∈ am_nest := wn0_m 5 rfl
theorem wd_42 : Cond.methodLinkNest "EvenFerry$State" 39 yX9_isMinute "EvenFerry" ∈ am_nest := wn0_m 6 rfl
theorem wd_63 : Cond.methodLinkNest "EvenFerry$River" 58 yX9_set "EvenFerry" ∈ am_nest := wn0_m 7 rfl
theorem wd_72 : Cond.methodLinkNest "EvenFerry$River" 79 yX9_get "EvenFerry" ∈ am_nest := wn0_m 8 rfl
theorem wd_86 : Cond.methodLinkNest "EvenFerry$Tape" 67 yX9_set "EvenFerry" ∈ am_nest := wn0_m 9 rfl
theorem wd_94 : Cond.methodLinkNest "EvenFerry$Tape" 83 yX9_get "EvenFerry" ∈ am_nest := wn0_m 10 rfl
theorem wd_167 : Cond.methodLinkNest "EvenFerry$Parser" 159 yX9_set "EvenFerry" ∈ am_nest := wn0_m 11 rfl
theorem wd_201 : Cond.methodLinkNest "EvenFerry$Day" 80 yX9_set "EvenFerry" ∈ am_nest := wn0_m 12 rfl
theorem wd_238 : Cond.methodLinkNest "EvenFerry$Day" 126 yX9_get "EvenFerry" ∈ am_nest := wn0_m 13 rfl
theorem wd_326 : Cond.methodLinkNest "EvenFerry$Lots" 123 yX9_get "EvenFerry" ∈ am_nest := wn0_m 14 rfl
theorem wd_352 : Cond.methodLinkNest "EvenFerry$Choices" 71 yX9_set "EvenFerry" ∈ am_nest := wn0_m 15 rfl
theorem wd_354 : Cond.methodLinkNest "EvenFerry$Choices" 78 yX9_get "EvenFerry" ∈ am_nest := wn0_m 16 rfl
theorem wd_364 : Cond.methodLinkNest "EvenFerry" 9 yX6_init "EvenFerry" ∈ am_nest := wn0_m 17 rfl
theorem wd_366 : Cond.methodLinkNest "EvenFerry" 12 yX8_init "EvenFerry" ∈ am_nest := wn0_m 18 rfl
theorem wd_392 : Cond.methodLinkNest "EvenFerry" 55 yX1_init "EvenFerry" ∈ am_nest := wn0_m 19 rfl
theorem wd_395 : Cond.methodLinkNest "EvenFerry" 62 yX4_init "EvenFerry" ∈ am_nest := wn0_m 20 rfl
theorem okX0_init : am_ok mX0_init 1 := ⟨wd_785, wd_198, by decide, by decide +kernel, by decide⟩
theorem okX0_empty : am_ok mX0_empty 0 := ⟨wd_786, wd_198, by decide, by decide +kernel, by decide⟩
theorem okX0_join : am_ok mX0_join 2 := ⟨wd_787, wd_198, by decide, by decide +kernel, by decide⟩
theorem okX0_leaveFirst : am_ok mX0_leaveFirst 1 := ⟨wd_788, wd_198, by decide, by decide +kernel, by decide⟩
theorem okX0_leave : am_ok mX0_leave 2 := ⟨wd_789, wd_198, by decide, by decide +kernel, by decide⟩
theorem okX0_size : am_ok mX0_size 0 := ⟨wd_790, wd_198, by decide, by decide +kernel, by decide⟩
theorem okX0_countWithGuests : am_ok mX0_countWithGuests 0 := ⟨wd_791, wd_198, by decide, by decide +kernel, by decide⟩
theorem okX0_loadWithGuests : am_ok mX0_loadWithGuests 0 := ⟨wd_792, wd_198, by decide, by decide +kernel, by decide⟩
theorem okX1_init : am_ok mX1_init 0 := ⟨wd_793, wd_403, by decide, by decide +kernel, by decide⟩
theorem okX1_weigh : am_ok mX1_weigh 2 := ⟨wd_794, wd_403, by decide, by decide +kernel, by decide⟩
theorem okX1_seat : am_ok mX1_seat 2 := ⟨wd_795, wd_403, by decide, by decide +kernel, by decide⟩
theorem okX1_findCheapest : am_ok mX1_findCheapest 1 := ⟨wd_796, wd_403, by decide, by decide +kernel, by decide⟩
theorem okX1_findResting : am_ok mX1_findResting 2 := ⟨wd_797, wd_403, by decide, by decide +kernel, by decide⟩
theorem okX1_isAtRest : am_ok mX1_isAtRest 2 := ⟨wd_798, wd_403, by decide, by decide +kernel, by decide⟩
theorem okX2_init : am_ok mX2_init 1 := ⟨wd_799, wd_61, by decide, by decide +kernel, by decide⟩
theorem okX2_add : am_ok mX2_add 4 := ⟨wd_800, wd_61, by decide, by decide +kernel, by decide⟩
theorem okX2_timeAt : am_ok mX2_timeAt 1 := ⟨wd_801, wd_61, by decide, by decide +kernel, by decide⟩
theorem okX3_init : am_ok mX3_init 2 := ⟨wd_802, wd_406, by decide, by decide +kernel, by decide⟩
theorem okX3_begin : am_ok mX3_begin 4 := ⟨wd_803, wd_406, by decide, by decide +kernel, by decide⟩
theorem okX3_letGoHome : am_ok mX3_letGoHome 2 := ⟨wd_804, wd_406, by decide, by decide +kernel, by decide⟩
theorem okX3_run : am_ok mX3_run 1 := ⟨wd_805, wd_406, by decide, by decide +kernel, by decide⟩
theorem okX3_soonest : am_ok mX3_soonest 1 := ⟨wd_806, wd_406, by decide, by decide +kernel, by decide⟩
theorem okX3_firstHolding : am_ok mX3_firstHolding 2 := ⟨wd_807, wd_406, by decide, by decide +kernel, by decide⟩
theorem okX3_come : am_ok mX3_come 1 := ⟨wd_808, wd_406, by decide, by decide +kernel, by decide⟩
theorem okX3_bankOf : am_ok mX3_bankOf 1 := ⟨wd_809, wd_406, by decide, by decide +kernel, by decide⟩
theorem okX3_wouldRing : am_ok mX3_wouldRing 1 := ⟨wd_810, wd_406, by decide, by decide +kernel, by decide⟩
theorem okX3_wouldRingWith : am_ok mX3_wouldRingWith 3 := ⟨wd_811, wd_406, by decide, by decide +kernel, by decide⟩
theorem okX3_freeBoat : am_ok mX3_freeBoat 1 := ⟨wd_812, wd_406, by decide, by decide +kernel, by decide⟩
theorem okX3_gatherFacts : am_ok mX3_gatherFacts 1 := ⟨wd_813, wd_406, by decide, by decide +kernel, by decide⟩
theorem okX3_earliest : am_ok mX3_earliest 2 := ⟨wd_814, wd_406, by decide, by decide +kernel, by decide⟩
theorem okX3_goOver : am_ok mX3_goOver 1 := ⟨wd_815, wd_406, by decide, by decide +kernel, by decide⟩
theorem okX3_board : am_ok mX3_board 2 := ⟨wd_816, wd_406, by decide, by decide +kernel, by decide⟩
theorem okX3_misjudged : am_ok mX3_misjudged 2 := ⟨wd_817, wd_406, by decide, by decide +kernel, by decide⟩
theorem okX3_isWaitingBehind : am_ok mX3_isWaitingBehind 2 := ⟨wd_818, wd_406, by decide, by decide +kernel, by decide⟩
theorem okX3_waitOf : am_ok mX3_waitOf 1 := ⟨wd_819, wd_406, by decide, by decide +kernel, by decide⟩
theorem okX3_longestWait : am_ok mX3_longestWait 0 := ⟨wd_820, wd_406, by decide, by decide +kernel, by decide⟩
theorem okX3_costOf : am_ok mX3_costOf 1 := ⟨wd_821, wd_406, by decide, by decide +kernel, by decide⟩
theorem okX3_costWithout : am_ok mX3_costWithout 1 := ⟨wd_822, wd_406, by decide, by decide +kernel, by decide⟩
theorem okX4_init : am_ok mX4_init 0 := ⟨wd_823, wd_400, by decide, by decide +kernel, by decide⟩
theorem okX4_isKnown : am_ok mX4_isKnown 2 := ⟨wd_824, wd_400, by decide, by decide +kernel, by decide⟩
theorem okX4_go : am_ok mX4_go 4 := ⟨wd_825, wd_400, by decide, by decide +kernel, by decide⟩
theorem okX4_drawCrowd : am_ok mX4_drawCrowd 1 := ⟨wd_826, wd_400, by decide, by decide +kernel, by decide⟩
theorem okX4_draw : am_ok mX4_draw 1 := ⟨wd_827, wd_400, by decide, by decide +kernel, by decide⟩
theorem okX4_addUp : am_ok mX4_addUp 1 := ⟨wd_828, wd_400, by decide, by decide +kernel, by decide⟩
theorem okX5_init : am_ok mX5_init 2 := ⟨wd_829, wd_381, by decide, by decide +kernel, by decide⟩
theorem okX5_read : am_ok mX5_read 1 := ⟨wd_830, wd_381, by decide, by decide +kernel, by decide⟩
theorem okX5_kind : am_ok mX5_kind 0 := ⟨wd_831, wd_381, by decide, by decide +kernel, by decide⟩
theorem okX5_step : am_ok mX5_step 0 := ⟨wd_832, wd_381, by decide, by decide +kernel, by decide⟩
theorem okX5_wrong : am_ok mX5_wrong 1 := ⟨wd_833, wd_381, by decide, by decide +kernel, by decide⟩
theorem okX5_expect : am_ok mX5_expect 1 := ⟨wd_834, wd_381, by decide, by decide +kernel, by decide⟩
theorem okX5_number : am_ok mX5_number 2 := ⟨wd_835, wd_381, by decide, by decide +kernel, by decide⟩
theorem okX5_line : am_ok mX5_line 0 := ⟨wd_836, wd_381, by decide, by decide +kernel, by decide⟩
theorem okX5_lineToldOnce : am_ok mX5_lineToldOnce 1 := ⟨wd_837, wd_381, by decide, by decide +kernel, by decide⟩
theorem okX5_personLine : am_ok mX5_personLine 0 := ⟨wd_838, wd_381, by decide, by decide +kernel, by decide⟩
theorem okX5_name : am_ok mX5_name 0 := ⟨wd_839, wd_381, by decide, by decide +kernel, by decide⟩
theorem okX5_sideWord : am_ok mX5_sideWord 0 := ⟨wd_840, wd_381, by decide, by decide +kernel, by decide⟩
theorem okX5_kindWord : am_ok mX5_kindWord 0 := ⟨wd_841, wd_381, by decide, by decide +kernel, by decide⟩
theorem okX5_lawLine : am_ok mX5_lawLine 0 := ⟨wd_842, wd_381, by decide, by decide +kernel, by decide⟩
theorem okX5_write : am_ok mX5_write 1 := ⟨wd_843, wd_381, by decide, by decide +kernel, by decide⟩
theorem okX5_chain : am_ok mX5_chain 2 := ⟨wd_844, wd_381, by decide, by decide +kernel, by decide⟩
theorem okX5_levelOf : am_ok mX5_levelOf 1 := ⟨wd_845, wd_381, by decide, by decide +kernel, by decide⟩
theorem okX5_part : am_ok mX5_part 1 := ⟨wd_846, wd_381, by decide, by decide +kernel, by decide⟩
theorem okX6_init : am_ok mX6_init 0 := ⟨wd_847, wd_387, by decide, by decide +kernel, by decide⟩
theorem okX6_addPerson : am_ok mX6_addPerson 5 := ⟨wd_848, wd_387, by decide, by decide +kernel, by decide⟩
theorem okX6_countOf : am_ok mX6_countOf 1 := ⟨wd_849, wd_387, by decide, by decide +kernel, by decide⟩
theorem okX6_endLaw : am_ok mX6_endLaw 1 := ⟨wd_850, wd_387, by decide, by decide +kernel, by decide⟩
theorem okX6_isTimed : am_ok mX6_isTimed 1 := ⟨wd_851, wd_387, by decide, by decide +kernel, by decide⟩
theorem okX6_lawValue : am_ok mX6_lawValue 3 := ⟨wd_852, wd_387, by decide, by decide +kernel, by decide⟩
theorem okX6_joined : am_ok mX6_joined 3 := ⟨wd_853, wd_387, by decide, by decide +kernel, by decide⟩
theorem okX7_init : am_ok mX7_init 1 := ⟨wd_854, wd_378, by decide, by decide +kernel, by decide⟩
theorem okX7_start : am_ok mX7_start 1 := ⟨wd_855, wd_378, by decide, by decide +kernel, by decide⟩
theorem okX7_take : am_ok mX7_take 1 := ⟨wd_856, wd_378, by decide, by decide +kernel, by decide⟩
theorem okX7_addTold : am_ok mX7_addTold 1 := ⟨wd_857, wd_378, by decide, by decide +kernel, by decide⟩
theorem okX7_isTold : am_ok mX7_isTold 1 := ⟨wd_858, wd_378, by decide, by decide +kernel, by decide⟩
theorem okX8_init : am_ok mX8_init 0 := ⟨wd_859, wd_384, by decide, by decide +kernel, by decide⟩
theorem okX8_append : am_ok mX8_append 1 := ⟨wd_860, wd_384, by decide, by decide +kernel, by decide⟩
theorem okX8_cut : am_ok mX8_cut 0 := ⟨wd_861, wd_384, by decide, by decide +kernel, by decide⟩
theorem okX8_add : am_ok mX8_add 2 := ⟨wd_862, wd_384, by decide, by decide +kernel, by decide⟩
theorem okX8_signAt : am_ok mX8_signAt 1 := ⟨wd_863, wd_384, by decide, by decide +kernel, by decide⟩
theorem okX8_isLetter : am_ok mX8_isLetter 1 := ⟨wd_864, wd_384, by decide, by decide +kernel, by decide⟩
theorem okX8_isDigit : am_ok mX8_isDigit 1 := ⟨wd_865, wd_384, by decide, by decide +kernel, by decide⟩
theorem okX8_endOfWord : am_ok mX8_endOfWord 1 := ⟨wd_866, wd_384, by decide, by decide +kernel, by decide⟩
theorem okX8_endOfNumber : am_ok mX8_endOfNumber 1 := ⟨wd_867, wd_384, by decide, by decide +kernel, by decide⟩
theorem okX8_wordKind : am_ok mX8_wordKind 2 := ⟨wd_868, wd_384, by decide, by decide +kernel, by decide⟩
theorem okX8_isWord : am_ok mX8_isWord 3 := ⟨wd_869, wd_384, by decide, by decide +kernel, by decide⟩
theorem okX8_nameKey : am_ok mX8_nameKey 1 := ⟨wd_870, wd_384, by decide, by decide +kernel, by decide⟩
theorem okX8_numberValue : am_ok mX8_numberValue 1 := ⟨wd_871, wd_384, by decide, by decide +kernel, by decide⟩
theorem okX9_init : am_ok mX9_init 0 := ⟨wd_872, wd_873, by decide, by decide +kernel, by decide⟩
theorem okX9_feed : am_ok mX9_feed 3 := ⟨wd_874, wd_873, by decide, by decide +kernel, by decide⟩
theorem okX9_river : am_ok mX9_river 0 := ⟨wd_875, wd_873, by decide, by decide +kernel, by decide⟩
theorem okX9_person : am_ok mX9_person 2 := ⟨wd_876, wd_873, by decide, by decide +kernel, by decide⟩
theorem okX9_use : am_ok mX9_use 1 := ⟨wd_877, wd_873, by decide, by decide +kernel, by decide⟩
theorem okX9_rings : am_ok mX9_rings 0 := ⟨wd_878, wd_873, by decide, by decide +kernel, by decide⟩
theorem okX9_ring : am_ok mX9_ring 2 := ⟨wd_879, wd_873, by decide, by decide +kernel, by decide⟩
theorem okX9_waits : am_ok mX9_waits 2 := ⟨wd_880, wd_873, by decide, by decide +kernel, by decide⟩
theorem okX9_all : am_ok mX9_all 1 := ⟨wd_881, wd_873, by decide, by decide +kernel, by decide⟩
theorem okX9_bank : am_ok mX9_bank 3 := ⟨wd_882, wd_873, by decide, by decide +kernel, by decide⟩
theorem okX9_send : am_ok mX9_send 2 := ⟨wd_883, wd_873, by decide, by decide +kernel, by decide⟩
theorem okX9_turn : am_ok mX9_turn 2 := ⟨wd_884, wd_873, by decide, by decide +kernel, by decide⟩
theorem okX9_asks : am_ok mX9_asks 1 := ⟨wd_885, wd_873, by decide, by decide +kernel, by decide⟩
theorem okX9_choice : am_ok mX9_choice 1 := ⟨wd_886, wd_873, by decide, by decide +kernel, by decide⟩
theorem okX9_chosen : am_ok mX9_chosen 1 := ⟨wd_887, wd_873, by decide, by decide +kernel, by decide⟩
theorem okX9_rests : am_ok mX9_rests 0 := ⟨wd_888, wd_873, by decide, by decide +kernel, by decide⟩
theorem okX9_rest : am_ok mX9_rest 1 := ⟨wd_889, wd_873, by decide, by decide +kernel, by decide⟩
theorem okX9_tell : am_ok mX9_tell 1 := ⟨wd_890, wd_873, by decide, by decide +kernel, by decide⟩
theorem okX9_clear : am_ok mX9_clear 0 := ⟨wd_891, wd_873, by decide, by decide +kernel, by decide⟩
theorem okX9_judged : am_ok mX9_judged 1 := ⟨wd_892, wd_873, by decide, by decide +kernel, by decide⟩
theorem okX9_likely : am_ok mX9_likely 2 := ⟨wd_893, wd_873, by decide, by decide +kernel, by decide⟩
theorem okX9_mean : am_ok mX9_mean 2 := ⟨wd_894, wd_873, by decide, by decide +kernel, by decide⟩
theorem okX9_came : am_ok mX9_came 1 := ⟨wd_895, wd_873, by decide, by decide +kernel, by decide⟩
theorem okX9_lots : am_ok mX9_lots 3 := ⟨wd_896, wd_873, by decide, by decide +kernel, by decide⟩
theorem okX9_best : am_ok mX9_best 0 := ⟨wd_897, wd_873, by decide, by decide +kernel, by decide⟩
theorem okX9_mark : am_ok mX9_mark 2 := ⟨wd_898, wd_873, by decide, by decide +kernel, by decide⟩
theorem okX9_count : am_ok mX9_count 1 := ⟨wd_899, wd_873, by decide, by decide +kernel, by decide⟩
theorem okX9_get : am_ok mX9_get 2 := ⟨wd_900, wd_873, by decide, by decide +kernel, by decide⟩
theorem okX9_set : am_ok mX9_set 3 := ⟨wd_901, wd_873, by decide, by decide +kernel, by decide⟩
theorem okX9_isMinute : am_ok mX9_isMinute 1 := ⟨wd_902, wd_873, by decide, by decide +kernel, by decide⟩
theorem okX9_isPerson : am_ok mX9_isPerson 1 := ⟨wd_903, wd_873, by decide, by decide +kernel, by decide⟩
theorem okX9_forget : am_ok mX9_forget 0 := ⟨wd_904, wd_873, by decide, by decide +kernel, by decide⟩
theorem okX9_knowDay : am_ok mX9_knowDay 0 := ⟨wd_905, wd_873, by decide, by decide +kernel, by decide⟩
theorem okX9_beginTrial : am_ok mX9_beginTrial 1 := ⟨wd_906, wd_873, by decide, by decide +kernel, by decide⟩
theorem okX9_nightBits : am_ok mX9_nightBits 0 := ⟨wd_907, wd_873, by decide, by decide +kernel, by decide⟩
theorem okX9_waitsAt : am_ok mX9_waitsAt 3 := ⟨wd_908, wd_873, by decide, by decide +kernel, by decide⟩
theorem okX9_heads : am_ok mX9_heads 2 := ⟨wd_909, wd_873, by decide, by decide +kernel, by decide⟩
theorem okX9_together : am_ok mX9_together 3 := ⟨wd_910, wd_873, by decide, by decide +kernel, by decide⟩
theorem okX9_mayTurn : am_ok mX9_mayTurn 2 := ⟨wd_911, wd_873, by decide, by decide +kernel, by decide⟩
theorem okX9_gainByTurning : am_ok mX9_gainByTurning 2 := ⟨wd_912, wd_873, by decide, by decide +kernel, by decide⟩
theorem okX9_levels : am_ok mX9_levels 2 := ⟨wd_913, wd_873, by decide, by decide +kernel, by decide⟩
theorem okX9_orders : am_ok mX9_orders 1 := ⟨wd_914, wd_873, by decide, by decide +kernel, by decide⟩
theorem okX9_power : am_ok mX9_power 2 := ⟨wd_915, wd_873, by decide, by decide +kernel, by decide⟩
theorem okX9_lowest : am_ok mX9_lowest 3 := ⟨wd_916, wd_873, by decide, by decide +kernel, by decide⟩
theorem okX10_init : am_ok mX10_init 0 := ⟨wd_917, wd_918, by decide, by decide +kernel, by decide⟩
theorem okX10_thrown : am_ok mX10_thrown 0 := ⟨wd_919, wd_918, by decide, by decide +kernel, by decide⟩
theorem okX10_within : am_ok mX10_within 3 := ⟨wd_920, wd_918, by decide, by decide +kernel, by decide⟩
theorem okX10_gcd : am_ok mX10_gcd 2 := ⟨wd_921, wd_918, by decide, by decide +kernel, by decide⟩
theorem okX10_feed : am_ok mX10_feed 3 := ⟨wd_922, wd_918, by decide, by decide +kernel, by decide⟩
theorem okX10_signAt : am_ok mX10_signAt 1 := ⟨wd_923, wd_918, by decide, by decide +kernel, by decide⟩
theorem okX10_nextToken : am_ok mX10_nextToken 0 := ⟨wd_924, wd_918, by decide, by decide +kernel, by decide⟩
theorem okX10_isWord : am_ok mX10_isWord 1 := ⟨wd_925, wd_918, by decide, by decide +kernel, by decide⟩
theorem okX10_isSign : am_ok mX10_isSign 1 := ⟨wd_926, wd_918, by decide, by decide +kernel, by decide⟩
theorem okX10_fails : am_ok mX10_fails 1 := ⟨wd_927, wd_918, by decide, by decide +kernel, by decide⟩
theorem okX10_starts0 : am_ok mX10_starts0 1 := ⟨wd_928, wd_918, by decide, by decide +kernel, by decide⟩
theorem okX10_puts : am_ok mX10_puts 1 := ⟨wd_929, wd_918, by decide, by decide +kernel, by decide⟩
theorem okX10_fact : am_ok mX10_fact 0 := ⟨wd_930, wd_918, by decide, by decide +kernel, by decide⟩
theorem okX10_reads : am_ok mX10_reads 0 := ⟨wd_931, wd_918, by decide, by decide +kernel, by decide⟩
theorem okX10_opens : am_ok mX10_opens 1 := ⟨wd_932, wd_918, by decide, by decide +kernel, by decide⟩
theorem okX10_sums : am_ok mX10_sums 1 := ⟨wd_933, wd_918, by decide, by decide +kernel, by decide⟩
theorem okX10_tests : am_ok mX10_tests 1 := ⟨wd_934, wd_918, by decide, by decide +kernel, by decide⟩
theorem okX10_worked : am_ok mX10_worked 1 := ⟨wd_935, wd_918, by decide, by decide +kernel, by decide⟩
theorem okX10_isKept : am_ok mX10_isKept 0 := ⟨wd_936, wd_918, by decide, by decide +kernel, by decide⟩
theorem okX10_needsNumber : am_ok mX10_needsNumber 2 := ⟨wd_937, wd_918, by decide, by decide +kernel, by decide⟩
theorem okX10_needsWord : am_ok mX10_needsWord 1 := ⟨wd_938, wd_918, by decide, by decide +kernel, by decide⟩
theorem okX10_ends : am_ok mX10_ends 0 := ⟨wd_939, wd_918, by decide, by decide +kernel, by decide⟩
theorem okX10_readsOne : am_ok mX10_readsOne 3 := ⟨wd_940, wd_918, by decide, by decide +kernel, by decide⟩
theorem okX10_readsSide : am_ok mX10_readsSide 0 := ⟨wd_941, wd_918, by decide, by decide +kernel, by decide⟩
theorem okX10_readsLaw : am_ok mX10_readsLaw 0 := ⟨wd_942, wd_918, by decide, by decide +kernel, by decide⟩
theorem okX10_kindAt : am_ok mX10_kindAt 0 := ⟨wd_943, wd_918, by decide, by decide +kernel, by decide⟩
theorem okX10_choosers : am_ok mX10_choosers 1 := ⟨wd_944, wd_918, by decide, by decide +kernel, by decide⟩
theorem okX10_readsPerson : am_ok mX10_readsPerson 0 := ⟨wd_945, wd_918, by decide, by decide +kernel, by decide⟩
theorem okX10_readsAll : am_ok mX10_readsAll 0 := ⟨wd_946, wd_918, by decide, by decide +kernel, by decide⟩
theorem okX10_moves : am_ok mX10_moves 4 := ⟨wd_947, wd_918, by decide, by decide +kernel, by decide⟩
theorem okX10_lays : am_ok mX10_lays 2 := ⟨wd_948, wd_918, by decide, by decide +kernel, by decide⟩
theorem okX10_river : am_ok mX10_river 0 := ⟨wd_949, wd_918, by decide, by decide +kernel, by decide⟩
theorem okX10_isPerson : am_ok mX10_isPerson 1 := ⟨wd_950, wd_918, by decide, by decide +kernel, by decide⟩
theorem okX10_isMinute : am_ok mX10_isMinute 1 := ⟨wd_951, wd_918, by decide, by decide +kernel, by decide⟩
theorem okX10_countOf : am_ok mX10_countOf 1 := ⟨wd_952, wd_918, by decide, by decide +kernel, by decide⟩
theorem okX10_person : am_ok mX10_person 2 := ⟨wd_953, wd_918, by decide, by decide +kernel, by decide⟩
theorem okX10_use : am_ok mX10_use 1 := ⟨wd_954, wd_918, by decide, by decide +kernel, by decide⟩
theorem okX10_joins : am_ok mX10_joins 5 := ⟨wd_955, wd_918, by decide, by decide +kernel, by decide⟩
theorem okX10_dawns : am_ok mX10_dawns 0 := ⟨wd_956, wd_918, by decide, by decide +kernel, by decide⟩
theorem okX10_tellsAll : am_ok mX10_tellsAll 1 := ⟨wd_957, wd_918, by decide, by decide +kernel, by decide⟩
theorem okX10_isWaiting : am_ok mX10_isWaiting 2 := ⟨wd_958, wd_918, by decide, by decide +kernel, by decide⟩
theorem okX10_wouldRing : am_ok mX10_wouldRing 1 := ⟨wd_959, wd_918, by decide, by decide +kernel, by decide⟩
theorem okX10_firstOf : am_ok mX10_firstOf 2 := ⟨wd_960, wd_918, by decide, by decide +kernel, by decide⟩
theorem okX10_leaves : am_ok mX10_leaves 2 := ⟨wd_961, wd_918, by decide, by decide +kernel, by decide⟩
theorem okX10_ringsOnce : am_ok mX10_ringsOnce 1 := ⟨wd_962, wd_918, by decide, by decide +kernel, by decide⟩
theorem okX10_goesOn : am_ok mX10_goesOn 2 := ⟨wd_963, wd_918, by decide, by decide +kernel, by decide⟩
theorem okX10_day : am_ok mX10_day 1 := ⟨wd_964, wd_918, by decide, by decide +kernel, by decide⟩
theorem okX10_waitOf : am_ok mX10_waitOf 1 := ⟨wd_965, wd_918, by decide, by decide +kernel, by decide⟩
theorem okX10_costAll : am_ok mX10_costAll 1 := ⟨wd_966, wd_918, by decide, by decide +kernel, by decide⟩
theorem okX10_rings : am_ok mX10_rings 0 := ⟨wd_967, wd_918, by decide, by decide +kernel, by decide⟩
theorem okX10_ring : am_ok mX10_ring 2 := ⟨wd_968, wd_918, by decide, by decide +kernel, by decide⟩
theorem okX10_waits : am_ok mX10_waits 2 := ⟨wd_969, wd_918, by decide, by decide +kernel, by decide⟩
theorem okX10_all : am_ok mX10_all 1 := ⟨wd_970, wd_918, by decide, by decide +kernel, by decide⟩
theorem okX10_waitsBehind : am_ok mX10_waitsBehind 2 := ⟨wd_971, wd_918, by decide, by decide +kernel, by decide⟩
theorem okX10_bank : am_ok mX10_bank 3 := ⟨wd_972, wd_918, by decide, by decide +kernel, by decide⟩
theorem okX10_ringsBy : am_ok mX10_ringsBy 3 := ⟨wd_973, wd_918, by decide, by decide +kernel, by decide⟩
theorem okX10_send : am_ok mX10_send 2 := ⟨wd_974, wd_918, by decide, by decide +kernel, by decide⟩
theorem okX10_canTurn : am_ok mX10_canTurn 2 := ⟨wd_975, wd_918, by decide, by decide +kernel, by decide⟩
theorem okX10_turns : am_ok mX10_turns 2 := ⟨wd_976, wd_918, by decide, by decide +kernel, by decide⟩
theorem okX10_turn : am_ok mX10_turn 2 := ⟨wd_977, wd_918, by decide, by decide +kernel, by decide⟩
theorem okX10_asks : am_ok mX10_asks 1 := ⟨wd_978, wd_918, by decide, by decide +kernel, by decide⟩
theorem okX10_choices : am_ok mX10_choices 0 := ⟨wd_979, wd_918, by decide, by decide +kernel, by decide⟩
theorem okX10_choice : am_ok mX10_choice 1 := ⟨wd_980, wd_918, by decide, by decide +kernel, by decide⟩
theorem okX10_chosen : am_ok mX10_chosen 1 := ⟨wd_981, wd_918, by decide, by decide +kernel, by decide⟩
theorem okX10_isRest : am_ok mX10_isRest 1 := ⟨wd_982, wd_918, by decide, by decide +kernel, by decide⟩
theorem okX10_rests : am_ok mX10_rests 0 := ⟨wd_983, wd_918, by decide, by decide +kernel, by decide⟩
theorem okX10_rest : am_ok mX10_rest 1 := ⟨wd_984, wd_918, by decide, by decide +kernel, by decide⟩
theorem okX10_tell : am_ok mX10_tell 1 := ⟨wd_985, wd_918, by decide, by decide +kernel, by decide⟩
theorem okX10_clear : am_ok mX10_clear 0 := ⟨wd_986, wd_918, by decide, by decide +kernel, by decide⟩
theorem okX10_judged : am_ok mX10_judged 1 := ⟨wd_987, wd_918, by decide, by decide +kernel, by decide⟩
theorem okX10_firsts : am_ok mX10_firsts 1 := ⟨wd_988, wd_918, by decide, by decide +kernel, by decide⟩
theorem okX10_chance : am_ok mX10_chance 1 := ⟨wd_989, wd_918, by decide, by decide +kernel, by decide⟩
theorem okX10_likely : am_ok mX10_likely 2 := ⟨wd_990, wd_918, by decide, by decide +kernel, by decide⟩
theorem okX10_mean : am_ok mX10_mean 2 := ⟨wd_991, wd_918, by decide, by decide +kernel, by decide⟩
theorem okX10_came : am_ok mX10_came 1 := ⟨wd_992, wd_918, by decide, by decide +kernel, by decide⟩
theorem okX10_draws : am_ok mX10_draws 1 := ⟨wd_993, wd_918, by decide, by decide +kernel, by decide⟩
theorem okX10_lots : am_ok mX10_lots 3 := ⟨wd_994, wd_918, by decide, by decide +kernel, by decide⟩
theorem okX10_best : am_ok mX10_best 0 := ⟨wd_995, wd_918, by decide, by decide +kernel, by decide⟩
theorem okX10_mark : am_ok mX10_mark 2 := ⟨wd_996, wd_918, by decide, by decide +kernel, by decide⟩
theorem okX10_count : am_ok mX10_count 1 := ⟨wd_997, wd_918, by decide, by decide +kernel, by decide⟩
