set_option maxRecDepth 100000 in
theorem lt_wsL_law_r16 : ∀ w ∈ wsL_law_r16, w ∈ lw_tbl := lw_mem _ [1038, 1039, 1040, 1041, 1042, 491, 492, 493, 494, 1043, 1044, 1045, 1046, 495, 496, 497, 498, 1047, 1048, 1049, 1050, 499, 500, 501] (by decide +kernel)
set_option maxRecDepth 100000 in
theorem lt_wsL_law_r17 : ∀ w ∈ wsL_law_r17, w ∈ lw_tbl := lw_mem _ [502, 335, 333, 510, 511, 73, 512, 329, 503, 504, 505, 506, 508, 12, 509, 1051, 1052, 1053, 1054, 1055, 1056, 1057, 1058, 1060] (by decide +kernel)
set_option maxRecDepth 100000 in
theorem lt_wsL_law_r18 : ∀ w ∈ wsL_law_r18, w ∈ lw_tbl := lw_mem _ [36, 1061, 887, 513, 514, 515, 516, 517, 518, 519, 520, 521, 1062, 1063, 1064, 1065, 1066, 1068, 37, 1069, 1070, 1072, 38, 1073] (by decide +kernel)
set_option maxRecDepth 100000 in
theorem lt_wsL_law_r19 : ∀ w ∈ wsL_law_r19, w ∈ lw_tbl := lw_mem _ [1074, 1076, 39, 1077, 523, 524, 525, 526, 527, 528, 529, 530, 99, 531, 1078, 1079, 1080, 1081, 1082, 1084, 40, 1085, 532, 533] (by decide +kernel)
set_option maxRecDepth 100000 in
theorem lt_wsL_law_r20 : ∀ w ∈ wsL_law_r20, w ∈ lw_tbl := lw_mem _ [534, 535, 536, 537, 538, 539, 540, 541, 542, 543, 1086, 1087, 1088, 1089, 1090, 1092, 41, 1093, 544, 545, 546, 547, 226, 228] (by decide +kernel)
set_option maxRecDepth 100000 in
theorem lt_wsL_law_r21 : ∀ w ∈ wsL_law_r21, w ∈ lw_tbl := lw_mem _ [548, 549, 550, 551, 553, 13, 554, 555, 557, 14, 558, 97, 162, 157, 160, 155, 559, 560, 561, 562, 563, 564, 565, 566] (by decide +kernel)
set_option maxRecDepth 100000 in
theorem lt_wsL_law_r22 : ∀ w ∈ wsL_law_r22, w ∈ lw_tbl := lw_mem _ [567, 569, 568, 570, 571, 572, 573, 574, 575, 74, 576, 577, 578, 579, 580, 581, 582, 583, 584, 172, 176, 180, 178, 182] (by decide +kernel)
set_option maxRecDepth 100000 in
theorem lt_wsL_law_r23 : ∀ w ∈ wsL_law_r23, w ∈ lw_tbl := lw_mem _ [585, 586, 587, 588, 589, 590, 591, 592, 593, 595, 15, 596, 598, 600, 16, 601, 1094, 1095, 1096, 1097, 1098, 1099, 1100, 1101] (by decide +kernel)
set_option maxRecDepth 100000 in
theorem lt_wsL_law_r24 : ∀ w ∈ wsL_law_r24, w ∈ lw_tbl := lw_mem _ [1103, 42, 1104, 1105, 1107, 43, 1108, 1109, 1111, 44, 1112, 1113, 1115, 45, 1116, 1117, 1119, 46, 1120, 602, 603, 604, 605, 233] (by decide +kernel)
set_option maxRecDepth 100000 in
theorem lt_wsL_law_r25 : ∀ w ∈ wsL_law_r25, w ∈ lw_tbl := lw_mem _ [1121, 1122, 1123, 1124, 606, 607, 608, 609, 610, 611, 612, 613, 614, 615, 616, 1125, 1126, 1127, 1128, 1129, 1130, 1131, 1132, 1134] (by decide +kernel)
set_option maxRecDepth 100000 in
theorem lt_wsL_law_r26 : ∀ w ∈ wsL_law_r26, w ∈ lw_tbl := lw_mem _ [47, 1135, 1136, 1138, 48, 1139, 618, 619, 620, 621, 622, 623, 624, 625, 1140, 1141, 1142, 1143, 1144, 1146, 49, 1147, 626, 627] (by decide +kernel)
set_option maxRecDepth 100000 in
theorem lt_wsL_law_r27 : ∀ w ∈ wsL_law_r27, w ∈ lw_tbl := lw_mem _ [628, 629, 230, 1148, 1149, 1150, 1151, 1152, 1154, 50, 1155, 630, 631, 632, 633, 634, 635, 636, 637, 1156, 1157, 1158, 1159, 1160] (by decide +kernel)
set_option maxRecDepth 100000 in
theorem lt_wsL_law_r28 : ∀ w ∈ wsL_law_r28, w ∈ lw_tbl := lw_mem _ [1162, 51, 1163, 1164, 1166, 52, 1167, 638, 639, 640, 641, 642, 643, 75, 644, 645, 646, 647, 648, 649, 650, 651, 652, 653] (by decide +kernel)
set_option maxRecDepth 100000 in
theorem lt_wsL_law_r29 : ∀ w ∈ wsL_law_r29, w ∈ lw_tbl := lw_mem _ [1168, 1169, 1170, 1171, 1172, 1174, 53, 1175, 1176, 1177, 1178, 654, 655, 656, 657, 658, 659, 660, 661, 1179, 1180, 1181, 1182, 1183] (by decide +kernel)
set_option maxRecDepth 100000 in
theorem lt_wsL_law_r30 : ∀ w ∈ wsL_law_r30, w ∈ lw_tbl := lw_mem _ [1185, 54, 1186, 662, 663, 664, 665, 261, 263, 666, 668, 17, 669, 670, 671, 672, 673, 674, 675, 676, 677, 159, 678, 680] (by decide +kernel)
