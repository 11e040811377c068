/-! ===== the law's words among the tables' words, each by its place ===== -/
theorem lw_mem {big : List Cond} (ws : List Cond) (ps : List Nat) (hp : ws = ps.filterMap (fun i => big[i]?)) : ∀ w ∈ ws, w ∈ big := by
  intro w hw
  rw [hp] at hw
  obtain ⟨i, -, hi⟩ := List.mem_filterMap.mp hw
  exact List.mem_of_getElem? hi
set_option maxRecDepth 100000 in
theorem lt_wsL_law_r1 : ∀ w ∈ wsL_law_r1, w ∈ lw_tbl := lw_mem _ [77, 78, 64, 848, 849, 72, 79, 80, 81, 82, 83, 84, 85, 86, 65, 345, 126, 128, 129, 130, 131, 132, 134, 346] (by decide +kernel)
set_option maxRecDepth 100000 in
theorem lt_wsL_law_r2 : ∀ w ∈ wsL_law_r2, w ∈ lw_tbl := lw_mem _ [125, 347, 348, 135, 136, 66, 349, 148, 149, 67, 350, 219, 220, 68, 351, 249, 250, 69, 352, 283, 284, 70, 353, 321] (by decide +kernel)
set_option maxRecDepth 100000 in
theorem lt_wsL_law_r3 : ∀ w ∈ wsL_law_r3, w ∈ lw_tbl := lw_mem _ [354, 355, 323, 71, 88, 89, 90, 91, 92, 93, 94, 96, 98, 101, 103, 105, 137, 138, 139, 140, 141, 142, 151, 152] (by decide +kernel)
set_option maxRecDepth 100000 in
theorem lt_wsL_law_r4 : ∀ w ∈ wsL_law_r4, w ∈ lw_tbl := lw_mem _ [153, 154, 156, 158, 161, 163, 164, 165, 166, 167, 168, 169, 170, 171, 175, 177, 179, 181, 222, 223, 224, 225, 227, 229] (by decide +kernel)
set_option maxRecDepth 100000 in
theorem lt_wsL_law_r5 : ∀ w ∈ wsL_law_r5, w ∈ lw_tbl := lw_mem _ [231, 232, 234, 252, 253, 254, 255, 256, 257, 258, 259, 260, 262, 264, 286, 287, 288, 289, 290, 291, 292, 294, 295, 296] (by decide +kernel)
set_option maxRecDepth 100000 in
theorem lt_wsL_law_r6 : ∀ w ∈ wsL_law_r6, w ∈ lw_tbl := lw_mem _ [298, 300, 325, 326, 327, 328, 330, 332, 334, 850, 851, 852, 853, 855, 856, 858, 859, 860, 861, 862, 863, 866, 867, 868] (by decide +kernel)
set_option maxRecDepth 100000 in
theorem lt_wsL_law_r7 : ∀ w ∈ wsL_law_r7, w ∈ lw_tbl := lw_mem _ [869, 870, 871, 872, 873, 874, 875, 876, 877, 878, 880, 881, 957, 882, 883, 884, 885, 886, 379, 380, 381, 382, 95, 383] (by decide +kernel)
set_option maxRecDepth 100000 in
theorem lt_wsL_law_r8 : ∀ w ∈ wsL_law_r8, w ∈ lw_tbl := lw_mem _ [384, 385, 386, 387, 388, 389, 390, 391, 392, 393, 394, 396, 0, 397, 398, 400, 1, 401, 402, 404, 2, 405, 406, 408] (by decide +kernel)
set_option maxRecDepth 100000 in
theorem lt_wsL_law_r9 : ∀ w ∈ wsL_law_r9, w ∈ lw_tbl := lw_mem _ [3, 409, 410, 412, 4, 413, 414, 416, 5, 417, 419, 421, 6, 422, 423, 425, 7, 426, 427, 429, 8, 430, 432, 433] (by decide +kernel)
set_option maxRecDepth 100000 in
theorem lt_wsL_law_r10 : ∀ w ∈ wsL_law_r10, w ∈ lw_tbl := lw_mem _ [434, 436, 9, 437, 438, 440, 10, 441, 442, 444, 11, 445, 235, 265, 301, 958, 959, 960, 961, 854, 962, 963, 964, 446] (by decide +kernel)
set_option maxRecDepth 100000 in
theorem lt_wsL_law_r11 : ∀ w ∈ wsL_law_r11, w ∈ lw_tbl := lw_mem _ [447, 448, 449, 965, 966, 967, 968, 450, 451, 452, 453, 104, 969, 970, 971, 972, 973, 975, 24, 976, 857, 864, 865, 977] (by decide +kernel)
set_option maxRecDepth 100000 in
theorem lt_wsL_law_r12 : ∀ w ∈ wsL_law_r12, w ∈ lw_tbl := lw_mem _ [979, 25, 980, 981, 983, 26, 984, 985, 987, 27, 988, 989, 991, 28, 992, 993, 995, 29, 996, 997, 999, 30, 1000, 1001] (by decide +kernel)
set_option maxRecDepth 100000 in
theorem lt_wsL_law_r13 : ∀ w ∈ wsL_law_r13, w ∈ lw_tbl := lw_mem _ [1002, 1003, 1004, 1006, 31, 1007, 454, 455, 456, 457, 458, 459, 460, 461, 462, 463, 464, 465, 466, 1008, 1009, 1010, 1011, 1012] (by decide +kernel)
set_option maxRecDepth 100000 in
theorem lt_wsL_law_r14 : ∀ w ∈ wsL_law_r14, w ∈ lw_tbl := lw_mem _ [1014, 32, 1015, 1016, 1018, 33, 1019, 467, 468, 469, 470, 102, 1020, 1021, 1022, 1023, 1024, 1026, 34, 1027, 471, 472, 473, 474] (by decide +kernel)
set_option maxRecDepth 100000 in
theorem lt_wsL_law_r15 : ∀ w ∈ wsL_law_r15, w ∈ lw_tbl := lw_mem _ [475, 476, 477, 478, 479, 480, 481, 482, 1028, 1029, 1030, 1031, 1032, 1034, 35, 1035, 483, 484, 485, 486, 487, 489, 1036, 1037] (by decide +kernel)
