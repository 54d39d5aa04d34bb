theorem mem_of_ix {big ws : List Cond} (ps : List Nat) (hp : ws = ps.filterMap (fun i => big[i]?)) : ∀ w ∈ ws, w ∈ big := fun w hw => by
  rw [hp] at hw
  obtain ⟨i, -, h⟩ := List.mem_filterMap.mp hw
  exact List.mem_of_getElem? h
def st_two : List Cond := [Cond.selects RX1 yX10_take yX10_take, Cond.selects RX3 yX10_take yX10_take]
def st_tbl : List Cond := st_two ++ lw_tbl
theorem st_hts {b : Nat} {s : State} (h : ∀ w ∈ lw_tbl, w.before #[Value.ref b] s = true) : ∀ w ∈ st_tbl, w.before #[Value.ref b] s = true := fun w hw => by
  rcases List.mem_append.mp hw with h1 | h1
  · have a1 : Cond.privateMethod yX10_take ∈ lw_tbl := by decide +kernel
    have a2 : Cond.instanceMethod yX10_take ∈ lw_tbl := by decide +kernel
    rcases List.mem_cons.mp h1 with rfl | h1
    · exact sel_sub (n := 17) (y1 := ⟨RX1, "refuse", "(II)V"⟩) (y2 := yX10_refuse) ⟨by decide, by decide⟩ (h _ (by decide +kernel)) (h _ a1) (h _ a2) rfl (h _ (by decide +kernel))
    · rcases List.mem_cons.mp h1 with rfl | h1
      · exact sel_sub (n := 14) (y1 := ⟨RX3, "refuse", "(II)V"⟩) (y2 := yX10_refuse) ⟨by decide, by decide⟩ (h _ (by decide +kernel)) (h _ a1) (h _ a2) rfl (h _ (by decide +kernel))
      · cases h1
  · exact h w h1
theorem st_wsL_law0_r1 : ∀ w ∈ wsL_law0_r1, w ∈ st_tbl := mem_of_ix [79, 80, 58, 1111, 1112, 69, 1233, 81, 82, 83, 84, 85, 86, 341, 342, 87, 88, 59, 133, 134, 61, 153, 154, 62] (by decide +kernel)
theorem st_wsL_law0_r2 : ∀ w ∈ wsL_law0_r2, w ∈ st_tbl := mem_of_ix [343, 344, 345, 167, 168, 64, 346, 221, 222, 65, 347, 273, 274, 66, 348, 319, 320, 68, 349, 89, 90, 91, 92, 93] (by decide +kernel)
theorem st_wsL_law0_r3 : ∀ w ∈ wsL_law0_r3, w ∈ st_tbl := mem_of_ix [126, 95, 60, 127, 97, 98, 99, 125, 100, 101, 102, 103, 104, 105, 106, 107, 136, 137, 138, 139, 140, 141, 142, 143] (by decide +kernel)
theorem st_wsL_law0_r4 : ∀ w ∈ wsL_law0_r4, w ∈ st_tbl := mem_of_ix [156, 157, 158, 166, 159, 160, 170, 171, 176, 178, 179, 180, 181, 182, 183, 184, 185, 186, 187, 188, 173, 63, 174, 175] (by decide +kernel)
theorem st_wsL_law0_r5 : ∀ w ∈ wsL_law0_r5, w ∈ st_tbl := mem_of_ix [189, 190, 191, 223, 224, 225, 228, 229, 230, 231, 232, 233, 234, 235, 236, 237, 238, 239, 240, 227, 275, 276, 277, 278] (by decide +kernel)
theorem st_wsL_law0_r6 : ∀ w ∈ wsL_law0_r6, w ∈ st_tbl := mem_of_ix [284, 285, 286, 288, 289, 291, 292, 293, 282, 283, 287, 290, 279, 280, 67, 281, 321, 322, 323, 324, 326, 327, 328, 329] (by decide +kernel)
theorem st_wsL_law0_r7 : ∀ w ∈ wsL_law0_r7, w ∈ st_tbl := mem_of_ix [325, 1113, 1114, 1115, 1116, 1119, 1120, 1121, 1122, 1123, 1125, 1132, 1133, 1135, 1136, 1137, 1139, 1140, 1141, 1142, 1143, 1144, 1117, 1146] (by decide +kernel)
theorem st_wsL_law0_r8 : ∀ w ∈ wsL_law0_r8, w ∈ st_tbl := mem_of_ix [1234, 1150, 1152, 1153, 1154, 369, 370, 371, 372, 373, 374, 375, 376, 377, 378, 379, 380, 1239, 1240, 1241, 1242, 1118, 1126, 1243] (by decide +kernel)
theorem st_wsL_law0_r9 : ∀ w ∈ wsL_law0_r9, w ∈ st_tbl := mem_of_ix [1245, 29, 1246, 381, 382, 383, 384, 385, 386, 387, 388, 1247, 1248, 1249, 1250, 389, 390, 391, 392, 393, 394, 395, 396, 397] (by decide +kernel)
theorem st_wsL_law0_r10 : ∀ w ∈ wsL_law0_r10, w ∈ st_tbl := mem_of_ix [398, 399, 400, 401, 402, 403, 404, 405, 406, 407, 408, 1251, 1252, 1253, 1254, 1124, 816, 817, 57, 818, 819, 820, 821, 822] (by decide +kernel)
theorem st_wsL_law0_r11 : ∀ w ∈ wsL_law0_r11, w ∈ st_tbl := mem_of_ix [823, 824, 73, 891, 892, 893, 894, 558, 560, 13, 561, 895, 896, 897, 421, 422, 423, 424, 425, 426, 427, 428, 1435, 0] (by decide +kernel)
theorem st_wsL_law0_r12 : ∀ w ∈ wsL_law0_r12, w ∈ st_tbl := mem_of_ix [430, 431, 432, 434, 435, 436, 437, 438, 439, 440, 441, 443, 444, 445, 446, 447, 448, 450, 451, 452, 453, 454, 455, 456] (by decide +kernel)
theorem st_wsL_law0_r13 : ∀ w ∈ wsL_law0_r13, w ∈ st_tbl := mem_of_ix [458, 2, 459, 460, 461, 462, 463, 465, 466, 467, 468, 469, 470, 471, 472, 473, 474, 475, 477, 3, 478, 479, 480, 481] (by decide +kernel)
theorem st_wsL_law0_r14 : ∀ w ∈ wsL_law0_r14, w ∈ st_tbl := mem_of_ix [482, 483, 484, 485, 486, 487, 488, 489, 490, 492, 493, 494, 496, 497, 498, 499, 500, 501, 502, 503, 505, 4, 506, 507] (by decide +kernel)
theorem st_wsL_law0_r15 : ∀ w ∈ wsL_law0_r15, w ∈ st_tbl := mem_of_ix [508, 509, 510, 511, 512, 513, 514, 515, 517, 5, 518, 520, 522, 6, 523, 524, 526, 7, 527, 528, 529, 530, 531, 533] (by decide +kernel)
theorem st_wsL_law0_r16 : ∀ w ∈ wsL_law0_r16, w ∈ st_tbl := mem_of_ix [8, 534, 535, 537, 9, 538, 539, 541, 10, 542, 543, 545, 11, 546, 547, 549, 12, 550, 551, 552, 553, 554, 556, 557] (by decide +kernel)
theorem st_wsL_law0_r17 : ∀ w ∈ wsL_law0_r17, w ∈ st_tbl := mem_of_ix [562, 564, 14, 565, 566, 568, 15, 569, 570, 571, 572, 573, 574, 575, 576, 577, 578, 579, 580, 581, 582, 583, 584, 585] (by decide +kernel)
theorem st_wsL_law0_r18 : ∀ w ∈ wsL_law0_r18, w ∈ st_tbl := mem_of_ix [1, 898, 899, 900, 612, 613, 901, 902, 903, 619, 620, 904, 905, 906, 907, 908, 909, 910, 911, 912, 913, 914, 1255, 1256] (by decide +kernel)
theorem st_wsL_law0_r19 : ∀ w ∈ wsL_law0_r19, w ∈ st_tbl := mem_of_ix [1257, 1258, 1130, 1134, 1259, 1261, 30, 1262, 1263, 1265, 31, 1266, 1127, 1128, 1129, 1267, 1269, 32, 1270, 1131, 1271, 1273, 33, 1274] (by decide +kernel)
theorem st_wsL_law0_r20 : ∀ w ∈ wsL_law0_r20, w ∈ st_tbl := mem_of_ix [1275, 1277, 34, 1278, 1279, 1281, 35, 1282, 1283, 1284, 1285, 1286, 1288, 36, 1289, 1290, 1292, 37, 1293, 1235, 1236, 1237, 1238, 409] (by decide +kernel)
theorem st_wsL_law0_r21 : ∀ w ∈ wsL_law0_r21, w ∈ st_tbl := mem_of_ix [410, 411, 412, 413, 414, 415, 416, 417, 418, 420, 586, 587, 588, 589, 590, 591, 593, 16, 594, 596, 598, 17, 599, 600] (by decide +kernel)
theorem st_wsL_law0_r22 : ∀ w ∈ wsL_law0_r22, w ∈ st_tbl := mem_of_ix [602, 18, 603, 604, 606, 19, 607, 608, 609, 611, 614, 615, 616, 618, 621, 622, 623, 624, 625, 626, 627, 628, 629, 630] (by decide +kernel)
theorem st_wsL_law0_r23 : ∀ w ∈ wsL_law0_r23, w ∈ st_tbl := mem_of_ix [631, 632, 633, 634, 635, 636, 638, 639, 640, 641, 642, 643, 644, 645, 646, 647, 648, 649, 650, 651, 652, 653, 1298, 1299] (by decide +kernel)
theorem st_wsL_law0_r24 : ∀ w ∈ wsL_law0_r24, w ∈ st_tbl := mem_of_ix [1300, 1301, 1318, 1302, 1304, 38, 1305, 1138, 1306, 1307, 1308, 1309, 1311, 39, 1312, 1313, 1315, 40, 1316, 1317, 1319, 1321, 41, 1322] (by decide +kernel)
theorem st_wsL_law0_r25 : ∀ w ∈ wsL_law0_r25, w ∈ st_tbl := mem_of_ix [654, 655, 656, 657, 1294, 1295, 1296, 1297, 915, 916, 917, 918, 919, 920, 921, 922, 928, 74, 923, 925, 23, 926, 927, 738] (by decide +kernel)
theorem st_wsL_law0_r26 : ∀ w ∈ wsL_law0_r26, w ∈ st_tbl := mem_of_ix [945, 735, 736, 737, 1323, 1324, 1325, 1326, 1327, 1329, 42, 1330, 1331, 1333, 43, 1334, 1335, 1337, 44, 1338, 946, 947, 948, 949] (by decide +kernel)
theorem st_wsL_law0_r27 : ∀ w ∈ wsL_law0_r27, w ∈ st_tbl := mem_of_ix [950, 951, 952, 954, 1339, 1340, 1341, 1342, 1343, 1345, 45, 1346, 1347, 1349, 46, 1350, 955, 956, 957, 958, 959, 960, 961, 962] (by decide +kernel)
theorem st_wsL_law0_r28 : ∀ w ∈ wsL_law0_r28, w ∈ st_tbl := mem_of_ix [963, 964, 965, 966, 744, 745, 747, 746, 748, 1351, 1352, 1353, 1354, 1355, 1357, 47, 1358, 1359, 1361, 48, 1362, 967, 968, 969] (by decide +kernel)
theorem st_wsL_law0_r29 : ∀ w ∈ wsL_law0_r29, w ∈ st_tbl := mem_of_ix [970, 971, 972, 973, 975, 976, 977, 978, 979, 980, 981, 982, 983, 1363, 1364, 1365, 1366, 984, 985, 986, 987, 988, 989, 990] (by decide +kernel)
theorem st_wsL_law0_r30 : ∀ w ∈ wsL_law0_r30, w ∈ st_tbl := mem_of_ix [991, 993, 24, 994, 995, 679, 680, 681, 996, 997, 998, 999, 688, 689, 690, 702, 703, 76, 704, 691, 692, 693, 694, 695] (by decide +kernel)
theorem st_wsL_law0_r31 : ∀ w ∈ wsL_law0_r31, w ∈ st_tbl := mem_of_ix [75, 696, 697, 698, 699, 1000, 1001, 1367, 1368, 1369, 1370, 1145, 1371, 1373, 49, 1374, 1002, 1003, 1004, 1005, 1006, 1007, 1008, 1009] (by decide +kernel)
theorem st_wsL_law0_r32 : ∀ w ∈ wsL_law0_r32, w ∈ st_tbl := mem_of_ix [1010, 1011, 1012, 1013, 1014, 1015, 1016, 1017, 1018, 1019, 1020, 1021, 1022, 1375, 1376, 1377, 1378, 658, 659, 660, 661, 662, 663, 664] (by decide +kernel)
theorem st_wsL_law0_r33 : ∀ w ∈ wsL_law0_r33, w ∈ st_tbl := mem_of_ix [665, 666, 667, 668, 669, 670, 672, 20, 673, 674, 675, 676, 677, 678, 682, 683, 684, 685, 687, 705, 706, 707, 708, 709] (by decide +kernel)
theorem st_wsL_law0_r34 : ∀ w ∈ wsL_law0_r34, w ∈ st_tbl := mem_of_ix [710, 711, 712, 713, 714, 715, 716, 717, 718, 719, 720, 721, 722, 723, 724, 725, 726, 727, 728, 729, 730, 731, 732, 733] (by decide +kernel)
theorem st_wsL_law0_r35 : ∀ w ∈ wsL_law0_r35, w ∈ st_tbl := mem_of_ix [734, 739, 740, 741, 742, 743, 749, 750, 751, 752, 754, 755, 756, 757, 1379, 1380, 1381, 1382, 1147, 1148, 1149, 1383, 1385, 50] (by decide +kernel)
theorem st_wsL_law0_r36 : ∀ w ∈ wsL_law0_r36, w ∈ st_tbl := mem_of_ix [1386, 1387, 1389, 51, 1390, 1391, 1393, 52, 1394, 1023, 1024, 1025, 1026, 1027, 1028, 1029, 1031, 1032, 1033, 1034, 1395, 1396, 1397, 1398] (by decide +kernel)
theorem st_wsL_law0_r37 : ∀ w ∈ wsL_law0_r37, w ∈ st_tbl := mem_of_ix [1036, 1037, 1038, 1039, 1040, 1041, 1042, 1044, 1399, 1400, 1401, 1402, 1403, 1405, 53, 1406, 758, 759, 760, 761, 762, 763, 77, 765] (by decide +kernel)
theorem st_wsL_law0_r38 : ∀ w ∈ wsL_law0_r38, w ∈ st_tbl := mem_of_ix [766, 767, 768, 769, 775, 776, 777, 778, 779, 780, 781, 782, 783, 784, 786, 21, 787, 788, 789, 790, 791, 792, 793, 794] (by decide +kernel)
theorem st_wsL_law0_r39 : ∀ w ∈ wsL_law0_r39, w ∈ st_tbl := mem_of_ix [795, 796, 1407, 1408, 1409, 1410, 1411, 1413, 54, 1414, 1151, 1415, 1417, 55, 1418, 797, 798, 799, 800, 801, 1419, 1420, 1421, 1422] (by decide +kernel)
theorem st_wsL_law0_r40 : ∀ w ∈ wsL_law0_r40, w ∈ st_tbl := mem_of_ix [1045, 1046, 1047, 1048, 1049, 1050, 1051, 1052, 1053, 78, 1069, 1070, 1071, 1072, 1073, 1074, 1075, 1076, 1077, 1078, 1079, 1081, 25, 1082] (by decide +kernel)
theorem st_wsL_law0_r41 : ∀ w ∈ wsL_law0_r41, w ∈ st_tbl := mem_of_ix [1083, 1084, 1085, 1087, 26, 1088, 1089, 1090, 1091, 1092, 1093, 1094, 1095, 1097, 27, 1098, 1099, 1101, 1103, 28, 1104, 1105, 1106, 1107] (by decide +kernel)
theorem st_wsL_law0_r42 : ∀ w ∈ wsL_law0_r42, w ∈ st_tbl := mem_of_ix [1108, 1110, 1423, 1424, 1425, 1426, 1155, 1427, 1429, 56, 1430, 802, 803, 804, 805, 806, 807, 808, 809, 810, 812, 813, 814, 815] (by decide +kernel)
theorem st_wsL_law0_r43 : ∀ w ∈ wsL_law0_r43, w ∈ st_tbl := mem_of_ix [1431, 1432, 1433, 1434] (by decide +kernel)
theorem st_wsX110 : ∀ w ∈ wsX110, w ∈ st_tbl := mem_of_ix [350, 352, 354, 356, 358, 360, 362, 364, 366] (by decide +kernel)
theorem st_wsX120 : ∀ w ∈ wsX120, w ∈ st_tbl := mem_of_ix [1156, 1158, 1160, 1162, 1164, 1166, 1168, 1170, 1172, 1174, 1176, 1178, 1180, 1182, 1184, 1186, 1188, 1190, 1192, 1194, 1196, 1198, 1200, 1202, 1204, 1206, 1208, 1210, 1212, 1214, 1216, 1218, 1220, 1222, 1224, 1226, 1228, 1230] (by decide +kernel)
theorem st_wsX00 : ∀ w ∈ wsX00, w ∈ st_tbl := mem_of_ix [128, 130] (by decide +kernel)
theorem st_wsX80 : ∀ w ∈ wsX80, w ∈ st_tbl := mem_of_ix [144, 146, 148, 150] (by decide +kernel)
theorem st_wsX90 : ∀ w ∈ wsX90, w ∈ st_tbl := mem_of_ix [161, 163] (by decide +kernel)
theorem st_wsX30 : ∀ w ∈ wsX30, w ∈ st_tbl := mem_of_ix [214, 216, 218, 192, 194, 196, 198, 200, 202, 204, 206, 208, 210, 212] (by decide +kernel)
theorem st_wsX10 : ∀ w ∈ wsX10, w ∈ st_tbl := mem_of_ix [269, 270, 271, 241, 243, 245, 247, 249, 251, 253, 255, 257, 259, 261, 263, 265, 267] (by decide +kernel)
theorem st_wsX50 : ∀ w ∈ wsX50, w ∈ st_tbl := mem_of_ix [294, 296, 298, 300, 302, 304, 306, 308, 310, 312, 314, 316] (by decide +kernel)
theorem st_wsX70 : ∀ w ∈ wsX70, w ∈ st_tbl := mem_of_ix [330, 332, 334, 336, 338] (by decide +kernel)
theorem st_wsX20 : ∀ w ∈ wsX20, w ∈ st_tbl := mem_of_ix [108, 110, 112, 114, 116, 118, 120, 122] (by decide +kernel)
theorem st_wsX40 : ∀ w ∈ wsX40, w ∈ st_tbl := mem_of_ix [770, 772] (by decide +kernel)
theorem st_x0 : ∀ w ∈ (vx_atS RX11 91 "java/lang/IndexOutOfBoundsException" ["java/lang/RuntimeException", "java/lang/Exception"]).filter goodWord, w ∈ st_tbl := mem_of_ix [70, 846, 855, 859, 862, 864, 847, 848, 85, 86, 849, 854, 860, 880, 836, 881, 838, 882, 840, 850, 852, 842, 876, 877, 879, 842, 867, 868, 869, 870, 870, 871, 872, 873, 873, 874, 875, 876, 866, 825, 833, 834, 835, 837, 839, 841, 845, 844, 843] (by decide +kernel)
theorem st_x1 : ∀ w ∈ (hn_at RX11 151 "java/util/NoSuchElementException" 13 prog_24_method_4_code ["java/lang/RuntimeException", "java/lang/Exception"]).filter goodWord, w ∈ st_tbl := mem_of_ix [70, 846, 855, 859, 862, 864, 847, 848, 85, 86, 849, 854, 860, 880, 836, 881, 838, 882, 840, 850, 852, 842, 876, 877, 879, 842, 939, 940, 941, 870, 870, 871, 872, 873, 873, 874, 875, 876, 938, 929, 931, 858, 932, 933, 934, 935, 845, 844, 936] (by decide +kernel)
theorem st_x2 : ∀ w ∈ (vx_atS RX11 248 "java/lang/IllegalArgumentException" ["java/lang/RuntimeException", "java/lang/Exception"]).filter goodWord, w ∈ st_tbl := mem_of_ix [70, 846, 855, 859, 862, 864, 847, 848, 85, 86, 849, 854, 860, 880, 836, 881, 838, 882, 840, 850, 852, 842, 876, 877, 879, 842, 1064, 1065, 1066, 870, 870, 871, 872, 873, 873, 874, 875, 876, 1063, 1054, 1056, 857, 1057, 1058, 1059, 1060, 845, 844, 1061] (by decide +kernel)
theorem st_app {a b : List Cond} (ha : ∀ w ∈ a, w ∈ st_tbl) (hb : ∀ w ∈ b, w ∈ st_tbl) : ∀ w ∈ a ++ b, w ∈ st_tbl := fun w h => (List.mem_append.mp h).elim (ha w) (hb w)
theorem st_law0 : ∀ w ∈ wsL_law0, w ∈ st_tbl := (st_app (st_app (st_app (st_app (st_app (st_app (st_app (st_app (st_app (st_app (st_app (st_app (st_app st_wsL_law0_r1 (st_app st_wsL_law0_r2 (st_app st_wsL_law0_r3 (st_app st_wsL_law0_r4 (st_app st_wsL_law0_r5 (st_app st_wsL_law0_r6 (st_app st_wsL_law0_r7 (st_app st_wsL_law0_r8 (st_app st_wsL_law0_r9 (st_app st_wsL_law0_r10 (st_app st_wsL_law0_r11 (st_app st_wsL_law0_r12 (st_app st_wsL_law0_r13 (st_app st_wsL_law0_r14 (st_app st_wsL_law0_r15 (st_app st_wsL_law0_r16 (st_app st_wsL_law0_r17 (st_app st_wsL_law0_r18 (st_app st_wsL_law0_r19 (st_app st_wsL_law0_r20 (st_app st_wsL_law0_r21 (st_app st_wsL_law0_r22 (st_app st_wsL_law0_r23 (st_app st_wsL_law0_r24 (st_app st_wsL_law0_r25 (st_app st_wsL_law0_r26 (st_app st_wsL_law0_r27 (st_app st_wsL_law0_r28 (st_app st_wsL_law0_r29 (st_app st_wsL_law0_r30 (st_app st_wsL_law0_r31 (st_app st_wsL_law0_r32 (st_app st_wsL_law0_r33 (st_app st_wsL_law0_r34 (st_app st_wsL_law0_r35 (st_app st_wsL_law0_r36 (st_app st_wsL_law0_r37 (st_app st_wsL_law0_r38 (st_app st_wsL_law0_r39 (st_app st_wsL_law0_r40 (st_app st_wsL_law0_r41 (st_app st_wsL_law0_r42 st_wsL_law0_r43)))))))))))))))))))))))))))))))))))))))))) st_wsX110) st_wsX120) st_wsX00) st_wsX80) st_wsX90) st_wsX30) st_wsX10) st_wsX50) st_wsX70) st_wsX20) st_wsX40) (fun w h => by cases h))
theorem wzL_law_in : ∀ w ∈ wzL_law, w ∈ st_tbl := st_app (st_app (st_app st_law0 st_x0) st_x1) st_x2
theorem wzL_law_hts {b : Nat} {s : State} (h : ∀ w ∈ lw_tbl, w.before #[Value.ref b] s = true) : ∀ w ∈ wzL_law, w.before #[Value.ref b] s = true := fun w hw => st_hts h w (wzL_law_in w hw)
