set_option maxRecDepth 100000 in
theorem lt_wsL_law_r31 : ∀ w ∈ wsL_law_r31, w ∈ lw_tbl := lw_mem _ [18, 681, 683, 684, 686, 19, 687, 688, 689, 691, 20, 692, 183, 693, 694, 695, 696, 698, 21, 699, 700, 701, 702, 703] (by decide +kernel)
set_option maxRecDepth 100000 in
theorem lt_wsL_law_r32 : ∀ w ∈ wsL_law_r32, w ∈ lw_tbl := lw_mem _ [1187, 1188, 1189, 1190, 1191, 1193, 55, 1194, 704, 705, 706, 707, 708, 709, 710, 711, 1195, 1196, 1197, 1198, 1199, 1201, 56, 1202] (by decide +kernel)
set_option maxRecDepth 100000 in
theorem lt_wsL_law_r33 : ∀ w ∈ wsL_law_r33, w ∈ lw_tbl := lw_mem _ [712, 713, 714, 715, 293, 716, 717, 718, 719, 1203, 1204, 1205, 1206, 879, 720, 721, 722, 723, 724, 725, 726, 727, 1207, 1208] (by decide +kernel)
set_option maxRecDepth 100000 in
theorem lt_wsL_law_r34 : ∀ w ∈ wsL_law_r34, w ∈ lw_tbl := lw_mem _ [1209, 1210, 728, 729, 730, 731, 732, 733, 734, 735, 1211, 1212, 1213, 1214, 1215, 1217, 57, 1218, 1219, 1221, 58, 1222, 736, 737] (by decide +kernel)
set_option maxRecDepth 100000 in
theorem lt_wsL_law_r35 : ∀ w ∈ wsL_law_r35, w ∈ lw_tbl := lw_mem _ [738, 739, 297, 299, 740, 741, 742, 743, 744, 746, 22, 747, 749, 750, 751, 748, 752, 753, 755, 23, 756, 173, 757, 758] (by decide +kernel)
set_option maxRecDepth 100000 in
theorem lt_wsL_law_r36 : ∀ w ∈ wsL_law_r36, w ∈ lw_tbl := lw_mem _ [1223, 1224, 1225, 1226, 759, 760, 761, 762, 174, 763, 764, 1227, 1228, 1229, 1230, 1231, 1233, 59, 1234, 765, 766, 767, 768, 769] (by decide +kernel)
set_option maxRecDepth 100000 in
theorem lt_wsL_law_r37 : ∀ w ∈ wsL_law_r37, w ∈ lw_tbl := lw_mem _ [770, 771, 772, 773, 774, 775, 776, 1235, 1236, 1237, 1238, 777, 778, 779, 780, 1239, 1240, 1241, 1242, 781, 782, 783, 784, 785] (by decide +kernel)
set_option maxRecDepth 100000 in
theorem lt_wsL_law_r38 : ∀ w ∈ wsL_law_r38, w ∈ lw_tbl := lw_mem _ [786, 787, 331, 788, 789, 790, 791, 1243, 1244, 1245, 1246, 1247, 1249, 60, 1250, 1251, 1253, 61, 1254, 792, 793, 794, 795, 796] (by decide +kernel)
set_option maxRecDepth 100000 in
theorem lt_wsL_law_r39 : ∀ w ∈ wsL_law_r39, w ∈ lw_tbl := lw_mem _ [1255, 1256, 1257, 1258, 1259, 797, 798, 799, 800, 805, 807, 806, 76, 801, 802, 803, 804, 1260, 1261, 1262, 1263, 808, 809, 810] (by decide +kernel)
set_option maxRecDepth 100000 in
theorem lt_wsL_law_r40 : ∀ w ∈ wsL_law_r40, w ∈ lw_tbl := lw_mem _ [811, 1264, 1265, 1266, 1267, 812, 813, 814, 815, 100, 816, 817, 818, 819, 820, 821, 822, 823, 824, 1268, 1269, 1270, 1271, 1272] (by decide +kernel)
set_option maxRecDepth 100000 in
theorem lt_wsL_law_r41 : ∀ w ∈ wsL_law_r41, w ∈ lw_tbl := lw_mem _ [1274, 62, 1275, 825, 826, 827, 828, 829, 830, 837, 831, 832, 833, 834, 835, 836, 839, 840, 841, 842, 843, 844, 845, 846] (by decide +kernel)
set_option maxRecDepth 100000 in
theorem lt_wsL_law_r42 : ∀ w ∈ wsL_law_r42, w ∈ lw_tbl := lw_mem _ [847, 1276, 1277, 1278, 1279, 1280, 1281, 1282] (by decide +kernel)
set_option maxRecDepth 100000 in
theorem lt_wsX00 : ∀ w ∈ wsX00, w ∈ lw_tbl := lw_mem _ [236, 238, 240, 242, 244, 246] (by decide +kernel)
set_option maxRecDepth 100000 in
theorem lt_wsX10 : ∀ w ∈ wsX10, w ∈ lw_tbl := lw_mem _ [266, 268, 270, 272, 274, 276, 278, 280] (by decide +kernel)
set_option maxRecDepth 100000 in
theorem lt_wsX20 : ∀ w ∈ wsX20, w ∈ lw_tbl := lw_mem _ [336, 338, 340, 342] (by decide +kernel)
set_option maxRecDepth 100000 in
theorem lt_wsX30 : ∀ w ∈ wsX30, w ∈ lw_tbl := lw_mem _ [184, 186, 188, 190, 192, 194, 196, 198, 200, 202, 204, 206, 208, 210, 212, 214, 216] (by decide +kernel)
set_option maxRecDepth 100000 in
theorem lt_wsX40 : ∀ w ∈ wsX40, w ∈ lw_tbl := lw_mem _ [106, 108, 110, 112, 114, 116, 118, 120, 122] (by decide +kernel)
set_option maxRecDepth 100000 in
theorem lt_wsX50 : ∀ w ∈ wsX50, w ∈ lw_tbl := lw_mem _ [302, 304, 306, 308, 310, 312, 314, 316, 318] (by decide +kernel)
set_option maxRecDepth 100000 in
theorem lt_wsX60 : ∀ w ∈ wsX60, w ∈ lw_tbl := lw_mem _ [143, 145] (by decide +kernel)
set_option maxRecDepth 100000 in
theorem lt_wsX70 : ∀ w ∈ wsX70, w ∈ lw_tbl := lw_mem _ [356, 358, 360, 362, 364, 366, 368, 370, 372, 374, 376] (by decide +kernel)
set_option maxRecDepth 100000 in
theorem lt_wsX80 : ∀ w ∈ wsX80, w ∈ lw_tbl := lw_mem _ [888, 890, 892, 894, 896, 898, 900, 902, 904, 906, 908, 910, 912, 914, 916, 918, 920, 922, 924, 926, 928, 930, 932, 934, 936, 938, 940, 942, 944, 946, 948, 950, 952, 954] (by decide +kernel)
theorem lt_all : ∀ w ∈ wsL_law, w ∈ lw_tbl := by
  intro w h
  have h := (List.mem_append.mp h).elim id (fun q => absurd q List.not_mem_nil)
  rcases List.mem_append.mp h with h | h
  rotate_left
  · exact lt_wsX20 w h
  rcases List.mem_append.mp h with h | h
  rotate_left
  · exact lt_wsX50 w h
  rcases List.mem_append.mp h with h | h
  rotate_left
  · exact lt_wsX10 w h
  rcases List.mem_append.mp h with h | h
  rotate_left
  · exact lt_wsX00 w h
  rcases List.mem_append.mp h with h | h
  rotate_left
  · exact lt_wsX30 w h
  rcases List.mem_append.mp h with h | h
  rotate_left
  · exact lt_wsX60 w h
  rcases List.mem_append.mp h with h | h
  rotate_left
  · exact lt_wsX40 w h
  rcases List.mem_append.mp h with h | h
  rotate_left
  · exact lt_wsX80 w h
  rcases List.mem_append.mp h with h | h
  rotate_left
  · exact lt_wsX70 w h
  rcases List.mem_append.mp h with h | h
  · exact lt_wsL_law_r1 w h
  rcases List.mem_append.mp h with h | h
  · exact lt_wsL_law_r2 w h
  rcases List.mem_append.mp h with h | h
  · exact lt_wsL_law_r3 w h
  rcases List.mem_append.mp h with h | h
  · exact lt_wsL_law_r4 w h
  rcases List.mem_append.mp h with h | h
  · exact lt_wsL_law_r5 w h
  rcases List.mem_append.mp h with h | h
  · exact lt_wsL_law_r6 w h
  rcases List.mem_append.mp h with h | h
  · exact lt_wsL_law_r7 w h
  rcases List.mem_append.mp h with h | h
  · exact lt_wsL_law_r8 w h
  rcases List.mem_append.mp h with h | h
  · exact lt_wsL_law_r9 w h
  rcases List.mem_append.mp h with h | h
  · exact lt_wsL_law_r10 w h
  rcases List.mem_append.mp h with h | h
  · exact lt_wsL_law_r11 w h
  rcases List.mem_append.mp h with h | h
  · exact lt_wsL_law_r12 w h
  rcases List.mem_append.mp h with h | h
  · exact lt_wsL_law_r13 w h
  rcases List.mem_append.mp h with h | h
  · exact lt_wsL_law_r14 w h
  rcases List.mem_append.mp h with h | h
  · exact lt_wsL_law_r15 w h
  rcases List.mem_append.mp h with h | h
  · exact lt_wsL_law_r16 w h
  rcases List.mem_append.mp h with h | h
  · exact lt_wsL_law_r17 w h
  rcases List.mem_append.mp h with h | h
  · exact lt_wsL_law_r18 w h
  rcases List.mem_append.mp h with h | h
  · exact lt_wsL_law_r19 w h
  rcases List.mem_append.mp h with h | h
  · exact lt_wsL_law_r20 w h
  rcases List.mem_append.mp h with h | h
  · exact lt_wsL_law_r21 w h
  rcases List.mem_append.mp h with h | h
  · exact lt_wsL_law_r22 w h
  rcases List.mem_append.mp h with h | h
  · exact lt_wsL_law_r23 w h
  rcases List.mem_append.mp h with h | h
  · exact lt_wsL_law_r24 w h
  rcases List.mem_append.mp h with h | h
  · exact lt_wsL_law_r25 w h
  rcases List.mem_append.mp h with h | h
  · exact lt_wsL_law_r26 w h
  rcases List.mem_append.mp h with h | h
  · exact lt_wsL_law_r27 w h
  rcases List.mem_append.mp h with h | h
  · exact lt_wsL_law_r28 w h
  rcases List.mem_append.mp h with h | h
  · exact lt_wsL_law_r29 w h
  rcases List.mem_append.mp h with h | h
  · exact lt_wsL_law_r30 w h
  rcases List.mem_append.mp h with h | h
  · exact lt_wsL_law_r31 w h
  rcases List.mem_append.mp h with h | h
  · exact lt_wsL_law_r32 w h
  rcases List.mem_append.mp h with h | h
  · exact lt_wsL_law_r33 w h
  rcases List.mem_append.mp h with h | h
  · exact lt_wsL_law_r34 w h
  rcases List.mem_append.mp h with h | h
  · exact lt_wsL_law_r35 w h
  rcases List.mem_append.mp h with h | h
  · exact lt_wsL_law_r36 w h
  rcases List.mem_append.mp h with h | h
  · exact lt_wsL_law_r37 w h
  rcases List.mem_append.mp h with h | h
  · exact lt_wsL_law_r38 w h
  rcases List.mem_append.mp h with h | h
  · exact lt_wsL_law_r39 w h
  rcases List.mem_append.mp h with h | h
  · exact lt_wsL_law_r40 w h
  rcases List.mem_append.mp h with h | h
  · exact lt_wsL_law_r41 w h
  exact lt_wsL_law_r42 w h
theorem lt_nq_0 : Cond.methodLinkNest RX7 11 yX4_init "MarketSpring" ∈ lw_tbl := List.mem_of_getElem? (i := 87) (by decide +kernel)
theorem lt_nq_1 : Cond.methodLinkNest RX7 46 yX3_init "MarketSpring" ∈ lw_tbl := List.mem_of_getElem? (i := 150) (by decide +kernel)
theorem lt_nq_2 : Cond.methodLinkNest RX7 53 yX0_init "MarketSpring" ∈ lw_tbl := List.mem_of_getElem? (i := 221) (by decide +kernel)
theorem lt_nq_3 : Cond.methodLinkNest RX7 60 yX1_init "MarketSpring" ∈ lw_tbl := List.mem_of_getElem? (i := 251) (by decide +kernel)
theorem lt_nq_4 : Cond.methodLinkNest RX7 67 yX5_init "MarketSpring" ∈ lw_tbl := List.mem_of_getElem? (i := 285) (by decide +kernel)
theorem lt_nq_5 : Cond.methodLinkNest RX7 81 yX2_init "MarketSpring" ∈ lw_tbl := List.mem_of_getElem? (i := 324) (by decide +kernel)
theorem lt_nq_6 : Cond.methodLinkNest RX4 88 yX7_within "MarketSpring" ∈ lw_tbl := List.mem_of_getElem? (i := 418) (by decide +kernel)
theorem lt_nq_7 : Cond.methodLinkNest RX4 78 yX7_bit "MarketSpring" ∈ lw_tbl := List.mem_of_getElem? (i := 431) (by decide +kernel)
theorem lt_nq_8 : Cond.methodLinkNest RX6 25 yX7_bit "MarketSpring" ∈ lw_tbl := List.mem_of_getElem? (i := 522) (by decide +kernel)
theorem lt_nq_9 : Cond.methodLinkNest RX3 83 yX7_bit "MarketSpring" ∈ lw_tbl := List.mem_of_getElem? (i := 597) (by decide +kernel)
theorem lt_nq_10 : Cond.methodLinkNest RX0 54 yX7_bit "MarketSpring" ∈ lw_tbl := List.mem_of_getElem? (i := 617) (by decide +kernel)
theorem lt_nq_11 : Cond.methodLinkNest RX1 62 yX7_bit "MarketSpring" ∈ lw_tbl := List.mem_of_getElem? (i := 682) (by decide +kernel)
theorem lt_nq : ∀ q ∈ ms_nq, Cond.methodLinkNest q.1 q.2.1 q.2.2 "MarketSpring" ∈ lw_tbl := by
  unfold ms_nq
  exact List.forall_mem_cons.mpr ⟨lt_nq_0, List.forall_mem_cons.mpr ⟨lt_nq_1, List.forall_mem_cons.mpr ⟨lt_nq_2, List.forall_mem_cons.mpr ⟨lt_nq_3, List.forall_mem_cons.mpr ⟨lt_nq_4, List.forall_mem_cons.mpr ⟨lt_nq_5, List.forall_mem_cons.mpr ⟨lt_nq_6, List.forall_mem_cons.mpr ⟨lt_nq_7, List.forall_mem_cons.mpr ⟨lt_nq_8, List.forall_mem_cons.mpr ⟨lt_nq_9, List.forall_mem_cons.mpr ⟨lt_nq_10, List.forall_mem_cons.mpr ⟨lt_nq_11, fun _ h => absurd h List.not_mem_nil⟩⟩⟩⟩⟩⟩⟩⟩⟩⟩⟩⟩
theorem lt_cast : Cond.castable "[I" "java/lang/Cloneable" ∈ lw_tbl := List.mem_of_getElem? (i := 133) (by decide +kernel)
theorem lt_over : Cond.arrayOver (.object RX2) ∈ lw_tbl := List.mem_of_getElem? (i := 322) (by decide +kernel)
theorem lt_st_SETTING_FIRST : Cond.laysStatic "MarketSpring" "SETTING_FIRST" "[I" ∈ lw_tbl := List.mem_of_getElem? (i := 127) (by decide +kernel)
theorem lt_st_SETTING_LEAST : Cond.laysStatic "MarketSpring" "SETTING_LEAST" "[I" ∈ lw_tbl := List.mem_of_getElem? (i := 488) (by decide +kernel)
theorem lt_st_SETTING_MOST : Cond.laysStatic "MarketSpring" "SETTING_MOST" "[I" ∈ lw_tbl := List.mem_of_getElem? (i := 490) (by decide +kernel)
theorem lt_st_DIGEST_HOURS : Cond.laysStatic "MarketSpring" "DIGEST_HOURS" "[I" ∈ lw_tbl := List.mem_of_getElem? (i := 838) (by decide +kernel)
