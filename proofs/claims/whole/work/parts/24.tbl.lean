theorem mem_r {big : List Cond} (ws : List Cond) (ps : List Nat) (hp : ws = ps.filterMap (fun i => big[i]?)) : ∀ w ∈ ws, w ∈ big := by
  intro w hw
  rw [hp] at hw
  obtain ⟨i, -, hi⟩ := List.mem_filterMap.mp hw
  exact List.mem_of_getElem? hi
set_option maxRecDepth 20000 in
theorem tb_r1 : ∀ w ∈ wsL_law0_r1, w ∈ lw_tbl := mem_r _ [72, 73, 53, 860, 861, 63, 1227, 74, 75, 76, 77, 78, 79, 80, 81, 54, 376, 96, 97, 55, 377, 138, 139, 56] (by decide +kernel)
set_option maxRecDepth 20000 in
theorem tb_r2 : ∀ w ∈ wsL_law0_r2, w ∈ lw_tbl := mem_r _ [378, 220, 221, 57, 384, 385, 257, 258, 58, 379, 281, 282, 59, 380, 292, 293, 60, 381, 316, 317, 61, 382, 334, 335] (by decide +kernel)
set_option maxRecDepth 20000 in
theorem tb_r3 : ∀ w ∈ wsL_law0_r3, w ∈ lw_tbl := mem_r _ [62, 383, 83, 84, 85, 95, 86, 88, 98, 99, 100, 101, 102, 104, 107, 108, 109, 110, 111, 112, 113, 114, 87, 106] (by decide +kernel)
set_option maxRecDepth 20000 in
theorem tb_r4 : ∀ w ∈ wsL_law0_r4, w ∈ lw_tbl := mem_r _ [141, 142, 143, 144, 148, 151, 156, 158, 161, 164, 167, 169, 172, 174, 177, 180, 182, 185, 186, 223, 224, 225, 226, 229] (by decide +kernel)
set_option maxRecDepth 20000 in
theorem tb_r5 : ∀ w ∈ wsL_law0_r5, w ∈ lw_tbl := mem_r _ [231, 234, 236, 238, 240, 259, 260, 261, 262, 263, 265, 268, 267, 269, 284, 285, 286, 287, 294, 295, 296, 297, 298, 300] (by decide +kernel)
set_option maxRecDepth 20000 in
theorem tb_r6 : ∀ w ∈ wsL_law0_r6, w ∈ lw_tbl := mem_r _ [304, 302, 303, 318, 319, 320, 321, 322, 324, 326, 336, 337, 338, 339, 340, 342, 345, 346, 347, 348, 349, 350, 351, 352] (by decide +kernel)
set_option maxRecDepth 20000 in
theorem tb_r7 : ∀ w ∈ wsL_law0_r7, w ∈ lw_tbl := mem_r _ [344, 862, 863, 864, 865, 867, 871, 874, 1033, 876, 877, 879, 880, 881, 882, 884, 885, 886, 887, 888, 889, 896, 897, 898] (by decide +kernel)
set_option maxRecDepth 20000 in
theorem tb_r8 : ∀ w ∈ wsL_law0_r8, w ∈ lw_tbl := mem_r _ [901, 866, 902, 903, 911, 913, 914, 915, 918, 919, 920, 921, 407, 408, 409, 410, 89, 411, 412, 413, 414, 415, 416, 417] (by decide +kernel)
set_option maxRecDepth 20000 in
theorem tb_r9 : ∀ w ∈ wsL_law0_r9, w ∈ lw_tbl := mem_r _ [418, 1038, 1039, 1040, 1041, 869, 868, 419, 420, 421, 422, 103, 235, 423, 424, 425, 426, 427, 428, 64, 429, 430, 431, 432] (by decide +kernel)
set_option maxRecDepth 20000 in
theorem tb_r10 : ∀ w ∈ wsL_law0_r10, w ∈ lw_tbl := mem_r _ [433, 434, 436, 0, 437, 438, 439, 440, 441, 442, 443, 444, 446, 1, 447, 448, 449, 450, 451, 453, 2, 454, 455, 457] (by decide +kernel)
set_option maxRecDepth 20000 in
theorem tb_r11 : ∀ w ∈ wsL_law0_r11, w ∈ lw_tbl := mem_r _ [3, 458, 459, 460, 461, 462, 464, 4, 465, 466, 468, 5, 469, 239, 241, 471, 472, 473, 474, 475, 476, 478, 479, 480] (by decide +kernel)
set_option maxRecDepth 20000 in
theorem tb_r12 : ∀ w ∈ wsL_law0_r12, w ∈ lw_tbl := mem_r _ [482, 6, 483, 228, 230, 233, 485, 487, 7, 488, 1042, 1043, 1044, 1045, 890, 870, 895, 899, 891, 892, 872, 900, 873, 1046] (by decide +kernel)
set_option maxRecDepth 20000 in
theorem tb_r13 : ∀ w ∈ wsL_law0_r13, w ∈ lw_tbl := mem_r _ [1048, 27, 1049, 894, 893, 1050, 1052, 28, 1053, 1054, 1056, 29, 1057, 1058, 1060, 30, 1061, 1062, 1064, 31, 1065, 1066, 1068, 32] (by decide +kernel)
set_option maxRecDepth 20000 in
theorem tb_r14 : ∀ w ∈ wsL_law0_r14, w ∈ lw_tbl := mem_r _ [1069, 1070, 1072, 33, 1073, 1074, 1076, 34, 1077, 489, 490, 491, 492, 105, 1078, 1079, 1080, 1081, 493, 494, 495, 496, 497, 498] (by decide +kernel)
set_option maxRecDepth 20000 in
theorem tb_r15 : ∀ w ∈ wsL_law0_r15, w ∈ lw_tbl := mem_r _ [499, 500, 501, 502, 503, 504, 1082, 1083, 1084, 1085, 875, 878, 1086, 1088, 35, 1089, 883, 505, 506, 507, 508, 509, 510, 511] (by decide +kernel)
set_option maxRecDepth 20000 in
theorem tb_r16 : ∀ w ∈ wsL_law0_r16, w ∈ lw_tbl := mem_r _ [512, 1090, 1091, 1092, 1093, 514, 515, 516, 517, 518, 519, 520, 521, 522, 523, 524, 525, 526, 528, 8, 529, 530, 532, 9] (by decide +kernel)
set_option maxRecDepth 20000 in
theorem tb_r17 : ∀ w ∈ wsL_law0_r17, w ∈ lw_tbl := mem_r _ [533, 1094, 1095, 1096, 1097, 1098, 1100, 36, 1101, 534, 535, 536, 537, 160, 538, 539, 1102, 1103, 1104, 1105, 540, 541, 542, 543] (by decide +kernel)
set_option maxRecDepth 20000 in
theorem tb_r18 : ∀ w ∈ wsL_law0_r18, w ∈ lw_tbl := mem_r _ [166, 1106, 1107, 1108, 1109, 544, 545, 546, 547, 168, 548, 549, 550, 551, 1110, 1111, 1112, 1113, 1114, 1116, 37, 1117, 552, 553] (by decide +kernel)
set_option maxRecDepth 20000 in
theorem tb_r19 : ∀ w ∈ wsL_law0_r19, w ∈ lw_tbl := mem_r _ [554, 555, 163, 1118, 1119, 1120, 1121, 556, 557, 558, 559, 560, 561, 562, 563, 1122, 1123, 1124, 1125, 564, 565, 566, 567, 568] (by decide +kernel)
set_option maxRecDepth 20000 in
theorem tb_r20 : ∀ w ∈ wsL_law0_r20, w ∈ lw_tbl := mem_r _ [569, 570, 571, 572, 573, 574, 575, 165, 576, 577, 578, 579, 581, 582, 583, 584, 585, 586, 587, 588, 237, 175, 157, 227] (by decide +kernel)
set_option maxRecDepth 20000 in
theorem tb_r21 : ∀ w ∈ wsL_law0_r21, w ∈ lw_tbl := mem_r _ [232, 590, 591, 592, 593, 595, 596, 597, 598, 599, 601, 10, 602, 173, 171, 178, 183, 603, 604, 65, 605, 606, 607, 608] (by decide +kernel)
set_option maxRecDepth 20000 in
theorem tb_r22 : ∀ w ∈ wsL_law0_r22, w ∈ lw_tbl := mem_r _ [609, 610, 611, 612, 266, 264, 613, 614, 615, 616, 617, 618, 619, 620, 621, 1126, 1127, 1128, 1129, 910, 906, 907, 908, 904] (by decide +kernel)
set_option maxRecDepth 20000 in
theorem tb_r23 : ∀ w ∈ wsL_law0_r23, w ∈ lw_tbl := mem_r _ [905, 1130, 1132, 38, 1133, 1134, 1136, 39, 1137, 909, 1138, 1140, 40, 1141, 1142, 1144, 41, 1145, 1146, 1148, 42, 1149, 1150, 1152] (by decide +kernel)
set_option maxRecDepth 20000 in
theorem tb_r24 : ∀ w ∈ wsL_law0_r24, w ∈ lw_tbl := mem_r _ [43, 1153, 622, 623, 624, 625, 288, 1154, 1155, 1156, 1157, 626, 627, 628, 629, 630, 155, 1158, 1159, 1160, 1161, 1162, 631, 632] (by decide +kernel)
set_option maxRecDepth 20000 in
theorem tb_r25 : ∀ w ∈ wsL_law0_r25, w ∈ lw_tbl := mem_r _ [633, 634, 635, 636, 637, 638, 145, 149, 159, 162, 639, 641, 11, 642, 643, 645, 12, 646, 154, 647, 648, 649, 651, 13] (by decide +kernel)
set_option maxRecDepth 20000 in
theorem tb_r26 : ∀ w ∈ wsL_law0_r26, w ∈ lw_tbl := mem_r _ [652, 1163, 1164, 1165, 1166, 912, 1167, 1169, 44, 1170, 1171, 1173, 45, 1174, 1175, 1177, 46, 1178, 1179, 1181, 47, 1182, 654, 655] (by decide +kernel)
set_option maxRecDepth 20000 in
theorem tb_r27 : ∀ w ∈ wsL_law0_r27, w ∈ lw_tbl := mem_r _ [656, 657, 301, 299, 1183, 1184, 1185, 1186, 658, 659, 660, 661, 323, 662, 663, 664, 665, 666, 667, 668, 669, 670, 671, 672] (by decide +kernel)
set_option maxRecDepth 20000 in
theorem tb_r28 : ∀ w ∈ wsL_law0_r28, w ∈ lw_tbl := mem_r _ [673, 674, 675, 676, 1187, 1188, 1189, 1190, 916, 1191, 1193, 48, 1194, 677, 678, 679, 680, 681, 682, 683, 684, 685, 686, 687] (by decide +kernel)
set_option maxRecDepth 20000 in
theorem tb_r29 : ∀ w ∈ wsL_law0_r29, w ∈ lw_tbl := mem_r _ [688, 153, 690, 691, 692, 693, 1195, 1196, 1197, 1198, 1199, 1201, 49, 1202, 695, 696, 697, 698, 699, 700, 701, 702, 756, 758] (by decide +kernel)
set_option maxRecDepth 20000 in
theorem tb_r30 : ∀ w ∈ wsL_law0_r30, w ∈ lw_tbl := mem_r _ [757, 66, 703, 705, 14, 706, 152, 707, 709, 15, 710, 146, 170, 711, 712, 714, 16, 715, 716, 717, 718, 720, 17, 721] (by decide +kernel)
set_option maxRecDepth 20000 in
theorem tb_r31 : ∀ w ∈ wsL_law0_r31, w ∈ lw_tbl := mem_r _ [723, 725, 18, 726, 728, 730, 19, 731, 732, 734, 20, 735, 736, 738, 21, 739, 740, 742, 22, 743, 744, 746, 23, 747] (by decide +kernel)
set_option maxRecDepth 20000 in
theorem tb_r32 : ∀ w ∈ wsL_law0_r32, w ∈ lw_tbl := mem_r _ [748, 750, 24, 751, 752, 754, 25, 755, 1203, 1204, 1205, 1206, 917, 1207, 1209, 50, 1210, 759, 760, 761, 762, 343, 341, 1211] (by decide +kernel)
set_option maxRecDepth 20000 in
theorem tb_r33 : ∀ w ∈ wsL_law0_r33, w ∈ lw_tbl := mem_r _ [1212, 1213, 1214, 768, 769, 52, 770, 771, 772, 773, 774, 775, 776, 777, 70, 844, 71, 176, 179, 181, 184, 1215, 1216, 1217] (by decide +kernel)
set_option maxRecDepth 20000 in
theorem tb_r34 : ∀ w ∈ wsL_law0_r34, w ∈ lw_tbl := mem_r _ [1218, 1219, 1221, 51, 1222, 1034, 1035, 1036, 1037, 763, 764, 765, 766, 147, 150, 325, 767, 1223, 1224, 1225, 1226] (by decide +kernel)
set_option maxRecDepth 20000 in
theorem tb_X9 : ∀ w ∈ wsX90, w ∈ lw_tbl := mem_r _ [386, 388, 390, 392, 394, 396, 398, 400, 402, 404] (by decide +kernel)
set_option maxRecDepth 20000 in
theorem tb_X10 : ∀ w ∈ wsX100, w ∈ lw_tbl := mem_r _ [922, 924, 926, 928, 930, 932, 934, 936, 938, 940, 942, 944, 946, 948, 950, 952, 954, 956, 958, 960, 962, 964, 966, 968, 970, 972, 974, 976, 978, 980, 982, 984, 986, 988, 990, 992, 994, 996, 998, 1000, 1002, 1004, 1006, 1008, 1010, 1012, 1014, 1016, 1018, 1020, 1022, 1024, 1026, 1028, 1030] (by decide +kernel)
set_option maxRecDepth 20000 in
theorem tb_X7 : ∀ w ∈ wsX70, w ∈ lw_tbl := mem_r _ [90, 92] (by decide +kernel)
set_option maxRecDepth 20000 in
theorem tb_X3 : ∀ w ∈ wsX30, w ∈ lw_tbl := mem_r _ [115, 117, 119, 121, 123, 125, 127, 129, 131, 133, 135] (by decide +kernel)
set_option maxRecDepth 20000 in
theorem tb_X0 : ∀ w ∈ wsX00, w ∈ lw_tbl := mem_r _ [187, 189, 191, 193, 195, 197, 199, 201, 203, 205, 207, 209, 211, 213, 215, 217] (by decide +kernel)
set_option maxRecDepth 20000 in
theorem tb_X5 : ∀ w ∈ wsX50, w ∈ lw_tbl := mem_r _ [242, 244, 246, 248, 250, 252, 254] (by decide +kernel)
set_option maxRecDepth 20000 in
theorem tb_X8 : ∀ w ∈ wsX80, w ∈ lw_tbl := mem_r _ [270, 272, 274, 276, 278] (by decide +kernel)
set_option maxRecDepth 20000 in
theorem tb_X4 : ∀ w ∈ wsX40, w ∈ lw_tbl := mem_r _ [289] (by decide +kernel)
set_option maxRecDepth 20000 in
theorem tb_X1 : ∀ w ∈ wsX10, w ∈ lw_tbl := mem_r _ [305, 307, 309, 311, 313] (by decide +kernel)
set_option maxRecDepth 20000 in
theorem tb_X6 : ∀ w ∈ wsX60, w ∈ lw_tbl := mem_r _ [327, 329, 331] (by decide +kernel)
set_option maxRecDepth 20000 in
theorem tb_X2 : ∀ w ∈ wsX20, w ∈ lw_tbl := mem_r _ [353, 355, 357, 359, 361, 363, 365, 367, 369, 371, 373] (by decide +kernel)
set_option maxRecDepth 20000 in
theorem tb_law0 : ∀ w ∈ wsL_law0, w ∈ lw_tbl := List.forall_mem_append.mpr ⟨List.forall_mem_append.mpr ⟨List.forall_mem_append.mpr ⟨List.forall_mem_append.mpr ⟨List.forall_mem_append.mpr ⟨List.forall_mem_append.mpr ⟨List.forall_mem_append.mpr ⟨List.forall_mem_append.mpr ⟨List.forall_mem_append.mpr ⟨List.forall_mem_append.mpr ⟨List.forall_mem_append.mpr ⟨List.forall_mem_append.mpr ⟨List.forall_mem_append.mpr ⟨tb_r1, List.forall_mem_append.mpr ⟨tb_r2, List.forall_mem_append.mpr ⟨tb_r3, List.forall_mem_append.mpr ⟨tb_r4, List.forall_mem_append.mpr ⟨tb_r5, List.forall_mem_append.mpr ⟨tb_r6, List.forall_mem_append.mpr ⟨tb_r7, List.forall_mem_append.mpr ⟨tb_r8, List.forall_mem_append.mpr ⟨tb_r9, List.forall_mem_append.mpr ⟨tb_r10, List.forall_mem_append.mpr ⟨tb_r11, List.forall_mem_append.mpr ⟨tb_r12, List.forall_mem_append.mpr ⟨tb_r13, List.forall_mem_append.mpr ⟨tb_r14, List.forall_mem_append.mpr ⟨tb_r15, List.forall_mem_append.mpr ⟨tb_r16, List.forall_mem_append.mpr ⟨tb_r17, List.forall_mem_append.mpr ⟨tb_r18, List.forall_mem_append.mpr ⟨tb_r19, List.forall_mem_append.mpr ⟨tb_r20, List.forall_mem_append.mpr ⟨tb_r21, List.forall_mem_append.mpr ⟨tb_r22, List.forall_mem_append.mpr ⟨tb_r23, List.forall_mem_append.mpr ⟨tb_r24, List.forall_mem_append.mpr ⟨tb_r25, List.forall_mem_append.mpr ⟨tb_r26, List.forall_mem_append.mpr ⟨tb_r27, List.forall_mem_append.mpr ⟨tb_r28, List.forall_mem_append.mpr ⟨tb_r29, List.forall_mem_append.mpr ⟨tb_r30, List.forall_mem_append.mpr ⟨tb_r31, List.forall_mem_append.mpr ⟨tb_r32, List.forall_mem_append.mpr ⟨tb_r33, tb_r34⟩⟩⟩⟩⟩⟩⟩⟩⟩⟩⟩⟩⟩⟩⟩⟩⟩⟩⟩⟩⟩⟩⟩⟩⟩⟩⟩⟩⟩⟩⟩⟩⟩, tb_X9⟩, tb_X10⟩, tb_X7⟩, tb_X3⟩, tb_X0⟩, tb_X5⟩, tb_X8⟩, tb_X4⟩, tb_X1⟩, tb_X6⟩, tb_X2⟩, fun _ h => absurd h List.not_mem_nil⟩
set_option maxRecDepth 20000 in
theorem tb_atI : ∀ w ∈ atI.filter goodWord, w ∈ lw_tbl := by decide +kernel
set_option maxRecDepth 20000 in
theorem tb_atN : ∀ w ∈ atN.filter goodWord, w ∈ lw_tbl := by decide +kernel
theorem tb_X : ∀ w ∈ bigX, w ∈ lw_tbl := List.forall_mem_append.mpr ⟨tb_law0, List.forall_mem_append.mpr ⟨tb_atI, tb_atN⟩⟩
