theorem pl_in {big ws : List Cond} (ps : List Nat) (hp : ws = ps.filterMap (fun i => big[i]?)) : ∀ w ∈ ws, w ∈ big := by
  intro w hw
  rw [hp] at hw
  obtain ⟨i, -, hi⟩ := List.mem_filterMap.mp hw
  exact List.mem_of_getElem? hi
theorem pl_app {big a b : List Cond} (ha : ∀ w ∈ a, w ∈ big) (hb : ∀ w ∈ b, w ∈ big) : ∀ w ∈ a ++ b, w ∈ big := fun w h => (List.mem_append.mp h).elim (ha w) (hb w)
set_option maxRecDepth 20000 in
theorem in_wsL_law_r1 : ∀ w ∈ wsL_law_r1, w ∈ lw_tbl := pl_in [92, 93, 73, 1063, 1064, 82, 94, 95, 96, 97, 98, 99, 100, 101, 74, 322, 323, 324, 199, 107, 75, 326, 201, 202] (by decide +kernel)
set_option maxRecDepth 20000 in
theorem in_wsL_law_r2 : ∀ w ∈ wsL_law_r2, w ∈ lw_tbl := pl_in [78, 327, 240, 124, 77, 328, 242, 243, 79, 329, 286, 287, 80, 330, 304, 305, 81, 331, 333, 103, 104, 105, 106, 153] (by decide +kernel)
set_option maxRecDepth 20000 in
theorem in_wsL_law_r3 : ∀ w ∈ wsL_law_r3, w ∈ lw_tbl := pl_in [156, 158, 162, 165, 168, 171, 174, 123, 176, 108, 109, 110, 111, 112, 113, 76, 114, 122, 115, 126, 127, 128, 129, 136] (by decide +kernel)
set_option maxRecDepth 20000 in
theorem in_wsL_law_r4 : ∀ w ∈ wsL_law_r4, w ∈ lw_tbl := pl_in [140, 130, 200, 203, 204, 205, 206, 207, 211, 209, 214, 213, 210, 245, 246, 247, 248, 260, 249, 289, 290, 291, 292, 294] (by decide +kernel)
set_option maxRecDepth 20000 in
theorem in_wsL_law_r5 : ∀ w ∈ wsL_law_r5, w ∈ lw_tbl := pl_in [295, 293, 307, 308, 309, 310, 312, 313, 311, 1065, 1066, 1067, 1068, 1069, 1130, 1070, 1071, 1073, 1074, 1075, 1083, 1084, 1085, 1086] (by decide +kernel)
set_option maxRecDepth 20000 in
theorem in_wsL_law_r6 : ∀ w ∈ wsL_law_r6, w ∈ lw_tbl := pl_in [1087, 1072, 368, 369, 370, 371, 372, 373, 374, 375, 376, 377, 378, 379, 116, 380, 381, 382, 383, 384, 385, 386, 387, 388] (by decide +kernel)
set_option maxRecDepth 20000 in
theorem in_wsL_law_r7 : ∀ w ∈ wsL_law_r7, w ∈ lw_tbl := pl_in [389, 390, 391, 131, 134, 392, 1131, 1132, 1133, 1134, 1135, 1137, 28, 1138, 393, 394, 395, 396, 154, 175, 397, 398, 399, 400] (by decide +kernel)
set_option maxRecDepth 20000 in
theorem in_wsL_law_r8 : ∀ w ∈ wsL_law_r8, w ∈ lw_tbl := pl_in [401, 402, 403, 405, 0, 406, 334, 407, 408, 409, 410, 411, 413, 1, 414, 336, 415, 416, 417, 418, 139, 142, 419, 420] (by decide +kernel)
set_option maxRecDepth 20000 in
theorem in_wsL_law_r9 : ∀ w ∈ wsL_law_r9, w ∈ lw_tbl := pl_in [421, 422, 423, 1139, 1140, 1141, 1142, 1143, 1147, 1148, 1144, 1145, 1146, 1149, 1151, 29, 1152, 1153, 1155, 30, 1156, 1157, 1159, 31] (by decide +kernel)
set_option maxRecDepth 20000 in
theorem in_wsL_law_r10 : ∀ w ∈ wsL_law_r10, w ∈ lw_tbl := pl_in [1160, 424, 425, 426, 427, 159, 428, 429, 430, 431, 432, 434, 435, 436, 437, 438, 439, 440, 441, 1161, 1162, 1163, 1164, 1165] (by decide +kernel)
set_option maxRecDepth 20000 in
theorem in_wsL_law_r11 : ∀ w ∈ wsL_law_r11, w ∈ lw_tbl := pl_in [1167, 32, 1168, 442, 443, 444, 445, 164, 446, 447, 1169, 1170, 1171, 1172, 448, 449, 450, 451, 1173, 1174, 1175, 1176, 1177, 452] (by decide +kernel)
set_option maxRecDepth 20000 in
theorem in_wsL_law_r12 : ∀ w ∈ wsL_law_r12, w ∈ lw_tbl := pl_in [453, 454, 455, 1178, 1179, 1180, 1181, 456, 457, 458, 459, 212, 460, 461, 462, 463, 220, 217, 215, 216, 464, 465, 467, 2] (by decide +kernel)
set_option maxRecDepth 20000 in
theorem in_wsL_law_r13 : ∀ w ∈ wsL_law_r13, w ∈ lw_tbl := pl_in [468, 469, 470, 471, 472, 473, 474, 476, 3, 477, 478, 479, 480, 481, 483, 4, 484, 218, 485, 487, 5, 488, 219, 489] (by decide +kernel)
set_option maxRecDepth 20000 in
theorem in_wsL_law_r14 : ∀ w ∈ wsL_law_r14, w ∈ lw_tbl := pl_in [491, 6, 492, 494, 496, 7, 497, 498, 499, 500, 83, 501, 1514, 502, 503, 504, 505, 506, 1515, 508, 509, 510, 511, 512] (by decide +kernel)
set_option maxRecDepth 20000 in
theorem in_wsL_law_r15 : ∀ w ∈ wsL_law_r15, w ∈ lw_tbl := pl_in [513, 514, 515, 516, 517, 84, 518, 519, 520, 521, 522, 524, 525, 85, 526, 527, 528, 86, 529, 530, 531, 532, 533, 534] (by decide +kernel)
set_option maxRecDepth 20000 in
theorem in_wsL_law_r16 : ∀ w ∈ wsL_law_r16, w ∈ lw_tbl := pl_in [535, 536, 537, 538, 539, 540, 542, 544, 550, 552, 8, 553, 155, 163, 554, 555, 556, 558, 9, 559, 560, 562, 10, 563] (by decide +kernel)
set_option maxRecDepth 20000 in
theorem in_wsL_law_r17 : ∀ w ∈ wsL_law_r17, w ∈ lw_tbl := pl_in [566, 567, 568, 570, 11, 571, 177, 141, 572, 573, 574, 575, 576, 577, 133, 578, 579, 580, 581, 582, 583, 584, 585, 87] (by decide +kernel)
set_option maxRecDepth 20000 in
theorem in_wsL_law_r18 : ∀ w ∈ wsL_law_r18, w ∈ lw_tbl := pl_in [586, 590, 591, 592, 587, 588, 589, 593, 594, 595, 88, 596, 597, 598, 599, 600, 601, 602, 603, 604, 605, 606, 607, 608] (by decide +kernel)
set_option maxRecDepth 20000 in
theorem in_wsL_law_r19 : ∀ w ∈ wsL_law_r19, w ∈ lw_tbl := pl_in [609, 610, 611, 612, 1182, 1183, 1184, 1185, 1076, 1077, 1186, 1188, 33, 1189, 1190, 1192, 34, 1193, 1194, 1196, 35, 1197, 1198, 1200] (by decide +kernel)
set_option maxRecDepth 20000 in
theorem in_wsL_law_r20 : ∀ w ∈ wsL_law_r20, w ∈ lw_tbl := pl_in [36, 1201, 1202, 1203, 1204, 1206, 37, 1207, 1208, 1210, 38, 1211, 1212, 1214, 39, 1215, 1216, 1218, 40, 1219, 1078, 1220, 1222, 41] (by decide +kernel)
set_option maxRecDepth 20000 in
theorem in_wsL_law_r21 : ∀ w ∈ wsL_law_r21, w ∈ lw_tbl := pl_in [1223, 1224, 1225, 1226, 1227, 1229, 42, 1230, 1231, 1233, 43, 1234, 1235, 1237, 44, 1238, 1239, 1241, 45, 1242, 1243, 1244, 1245, 1246] (by decide +kernel)
set_option maxRecDepth 20000 in
theorem in_wsL_law_r22 : ∀ w ∈ wsL_law_r22, w ∈ lw_tbl := pl_in [1247, 1248, 1249, 1251, 46, 1252, 1253, 1255, 47, 1256, 614, 615, 616, 617, 179, 618, 619, 620, 621, 623, 624, 625, 627, 12] (by decide +kernel)
set_option maxRecDepth 20000 in
theorem in_wsL_law_r23 : ∀ w ∈ wsL_law_r23, w ∈ lw_tbl := pl_in [628, 335, 629, 630, 631, 632, 633, 634, 635, 636, 637, 638, 639, 640, 641, 642, 643, 644, 645, 646, 647, 648, 649, 650] (by decide +kernel)
set_option maxRecDepth 20000 in
theorem in_wsL_law_r24 : ∀ w ∈ wsL_law_r24, w ∈ lw_tbl := pl_in [651, 658, 659, 652, 653, 654, 655, 656, 657, 1257, 1258, 1259, 1260, 1261, 1262, 1263, 1264, 1265, 1267, 48, 1268, 1269, 1271, 49] (by decide +kernel)
set_option maxRecDepth 20000 in
theorem in_wsL_law_r25 : ∀ w ∈ wsL_law_r25, w ∈ lw_tbl := pl_in [1272, 1273, 1274, 1275, 1276, 1278, 50, 1279, 1280, 1281, 1282, 660, 661, 662, 663, 138, 664, 665, 666, 667, 668, 669, 670, 671] (by decide +kernel)
set_option maxRecDepth 20000 in
theorem in_wsL_law_r26 : ∀ w ∈ wsL_law_r26, w ∈ lw_tbl := pl_in [672, 1283, 1284, 1285, 1286, 1287, 1288, 1290, 51, 1291, 674, 675, 676, 677, 132, 678, 679, 680, 681, 682, 683, 684, 685, 686] (by decide +kernel)
set_option maxRecDepth 20000 in
theorem in_wsL_law_r27 : ∀ w ∈ wsL_law_r27, w ∈ lw_tbl := pl_in [1292, 1293, 1294, 1295, 687, 688, 689, 690, 691, 692, 693, 694, 695, 696, 1296, 1297, 1298, 1299, 1300, 1302, 52, 1303, 697, 698] (by decide +kernel)
set_option maxRecDepth 20000 in
theorem in_wsL_law_r28 : ∀ w ∈ wsL_law_r28, w ∈ lw_tbl := pl_in [699, 700, 701, 1304, 1305, 1306, 1307, 1308, 1310, 53, 1311, 702, 703, 704, 705, 706, 707, 708, 1312, 1313, 1314, 1315, 709, 710] (by decide +kernel)
set_option maxRecDepth 20000 in
theorem in_wsL_law_r29 : ∀ w ∈ wsL_law_r29, w ∈ lw_tbl := pl_in [711, 712, 135, 251, 253, 255, 257, 713, 714, 715, 716, 250, 263, 717, 719, 13, 720, 261, 262, 264, 721, 722, 723, 725] (by decide +kernel)
set_option maxRecDepth 20000 in
theorem in_wsL_law_r30 : ∀ w ∈ wsL_law_r30, w ∈ lw_tbl := pl_in [14, 726, 160, 178, 137, 727, 729, 730, 732, 15, 733, 734, 735, 736, 737, 738, 740, 16, 741, 252, 254, 256, 258, 742] (by decide +kernel)
set_option maxRecDepth 20000 in
theorem in_wsL_law_r31 : ∀ w ∈ wsL_law_r31, w ∈ lw_tbl := pl_in [1316, 1317, 1318, 1319, 1320, 1321, 1080, 1081, 1079, 1082, 1322, 1324, 54, 1325, 1326, 1328, 55, 1329, 743, 744, 745, 746, 259, 1330] (by decide +kernel)
set_option maxRecDepth 20000 in
theorem in_wsL_law_r32 : ∀ w ∈ wsL_law_r32, w ∈ lw_tbl := pl_in [1331, 1332, 1333, 747, 748, 749, 750, 157, 751, 752, 753, 754, 755, 756, 757, 758, 759, 760, 761, 762, 763, 764, 765, 296] (by decide +kernel)
set_option maxRecDepth 20000 in
theorem in_wsL_law_r33 : ∀ w ∈ wsL_law_r33, w ∈ lw_tbl := pl_in [766, 768, 17, 769, 770, 771, 772, 773, 774, 775, 776, 777, 779, 18, 780, 782, 784, 19, 785, 786, 788, 20, 789, 790] (by decide +kernel)
set_option maxRecDepth 20000 in
theorem in_wsL_law_r34 : ∀ w ∈ wsL_law_r34, w ∈ lw_tbl := pl_in [791, 792, 794, 21, 795, 796, 797, 799, 22, 800, 801, 803, 23, 804, 805, 806, 807, 808, 809, 810, 811, 812, 813, 1334] (by decide +kernel)
set_option maxRecDepth 20000 in
theorem in_wsL_law_r35 : ∀ w ∈ wsL_law_r35, w ∈ lw_tbl := pl_in [1335, 1336, 1337, 1338, 1340, 56, 1341, 1342, 1344, 57, 1345, 1346, 1347, 1348, 1349, 1350, 1351, 814, 815, 816, 817, 143, 818, 819] (by decide +kernel)
set_option maxRecDepth 20000 in
theorem in_wsL_law_r36 : ∀ w ∈ wsL_law_r36, w ∈ lw_tbl := pl_in [820, 821, 822, 1352, 1353, 1354, 1355, 823, 824, 825, 826, 827, 828, 829, 830, 831, 832, 833, 834, 835, 836, 837, 89, 838] (by decide +kernel)
set_option maxRecDepth 20000 in
theorem in_wsL_law_r37 : ∀ w ∈ wsL_law_r37, w ∈ lw_tbl := pl_in [839, 840, 841, 842, 843, 844, 845, 846, 847, 848, 849, 1356, 1357, 1358, 1359, 1360, 1362, 58, 1363, 1364, 1366, 59, 1367, 1368] (by decide +kernel)
set_option maxRecDepth 20000 in
theorem in_wsL_law_r38 : ∀ w ∈ wsL_law_r38, w ∈ lw_tbl := pl_in [1370, 60, 1371, 1372, 1373, 1374, 1375, 1376, 1377, 1378, 1379, 1380, 1381, 850, 851, 852, 853, 167, 854, 855, 856, 857, 1382, 1383] (by decide +kernel)
set_option maxRecDepth 20000 in
theorem in_wsL_law_r39 : ∀ w ∈ wsL_law_r39, w ∈ lw_tbl := pl_in [1384, 1385, 1386, 858, 859, 860, 861, 862, 863, 90, 864, 865, 866, 867, 868, 166, 161, 869, 870, 871, 872, 873, 874, 876] (by decide +kernel)
set_option maxRecDepth 20000 in
theorem in_wsL_law_r40 : ∀ w ∈ wsL_law_r40, w ∈ lw_tbl := pl_in [1387, 1388, 1389, 1390, 1391, 1393, 61, 1394, 1395, 1397, 62, 1398, 877, 878, 879, 880, 881, 882, 883, 884, 885, 886, 887, 314] (by decide +kernel)
set_option maxRecDepth 20000 in
theorem in_wsL_law_r41 : ∀ w ∈ wsL_law_r41, w ∈ lw_tbl := pl_in [888, 889, 890, 891, 892, 893, 894, 895, 904, 896, 898, 24, 899, 900, 901, 902, 903, 905, 906, 907, 908, 1399, 1400, 1401] (by decide +kernel)
set_option maxRecDepth 20000 in
theorem in_wsL_law_r42 : ∀ w ∈ wsL_law_r42, w ∈ lw_tbl := pl_in [1402, 1403, 1405, 63, 1406, 1407, 1409, 64, 1410, 1411, 1413, 65, 1414, 909, 910, 911, 912, 170, 913, 914, 915, 916, 1415, 1416] (by decide +kernel)
set_option maxRecDepth 20000 in
theorem in_wsL_law_r43 : ∀ w ∈ wsL_law_r43, w ∈ lw_tbl := pl_in [1417, 1418, 917, 918, 919, 920, 173, 921, 922, 923, 924, 1419, 1420, 1421, 1422, 925, 926, 927, 928, 929, 931, 25, 932, 1423] (by decide +kernel)
set_option maxRecDepth 20000 in
theorem in_wsL_law_r44 : ∀ w ∈ wsL_law_r44, w ∈ lw_tbl := pl_in [1424, 1425, 1426, 933, 934, 935, 936, 937, 938, 939, 169, 940, 941, 942, 943, 1427, 1428, 1429, 1430, 1431, 1433, 66, 1434, 944] (by decide +kernel)
set_option maxRecDepth 20000 in
theorem in_wsL_law_r45 : ∀ w ∈ wsL_law_r45, w ∈ lw_tbl := pl_in [945, 946, 947, 948, 949, 950, 1435, 1436, 1437, 1438, 951, 952, 953, 954, 955, 956, 957, 172, 958, 959, 960, 961, 1439, 1440] (by decide +kernel)
set_option maxRecDepth 20000 in
theorem in_wsL_law_r46 : ∀ w ∈ wsL_law_r46, w ∈ lw_tbl := pl_in [1441, 1442, 1443, 1445, 67, 1446, 962, 963, 964, 965, 966, 967, 968, 969, 970, 971, 1447, 1448, 1449, 1450, 972, 973, 974, 975] (by decide +kernel)
set_option maxRecDepth 20000 in
theorem in_wsL_law_r47 : ∀ w ∈ wsL_law_r47, w ∈ lw_tbl := pl_in [976, 977, 978, 979, 980, 91, 981, 982, 983, 984, 985, 986, 987, 988, 989, 990, 992, 993, 994, 995, 996, 997, 1451, 1452] (by decide +kernel)
set_option maxRecDepth 20000 in
theorem in_wsL_law_r48 : ∀ w ∈ wsL_law_r48, w ∈ lw_tbl := pl_in [1453, 1454, 1455, 1457, 68, 1458, 1459, 1461, 69, 1462, 998, 999, 1000, 1001, 1007, 1002, 1003, 1004, 1005, 1006, 1008, 1010, 26, 1011] (by decide +kernel)
set_option maxRecDepth 20000 in
theorem in_wsL_law_r49 : ∀ w ∈ wsL_law_r49, w ∈ lw_tbl := pl_in [332, 1012, 1013, 1014, 1463, 1464, 1465, 1466, 1467, 1015, 1016, 1017, 1018, 1019, 1021, 1022, 1023, 1024, 1025, 1026, 1020, 1027, 1468, 1469] (by decide +kernel)
set_option maxRecDepth 20000 in
theorem in_wsL_law_r50 : ∀ w ∈ wsL_law_r50, w ∈ lw_tbl := pl_in [1470, 1471, 1472, 1473, 1474, 1475, 1476, 1477, 1478, 1479, 1028, 1029, 1030, 1031, 1480, 1481, 1482, 1483, 1032, 1033, 1034, 1035, 325, 1036] (by decide +kernel)
set_option maxRecDepth 20000 in
theorem in_wsL_law_r51 : ∀ w ∈ wsL_law_r51, w ∈ lw_tbl := pl_in [1038, 27, 1039, 1484, 1485, 1486, 1487, 1040, 1041, 1042, 1043, 1488, 1489, 1490, 1491, 1044, 1045, 1046, 1047, 1492, 1493, 1494, 1495, 1048] (by decide +kernel)
set_option maxRecDepth 20000 in
theorem in_wsL_law_r52 : ∀ w ∈ wsL_law_r52, w ∈ lw_tbl := pl_in [1049, 1050, 1051, 1496, 1497, 1498, 1499, 1500, 1502, 70, 1503, 1052, 1053, 1054, 1055, 1056, 1057, 1058, 1059, 1060, 1061, 1062, 1504, 1505] (by decide +kernel)
set_option maxRecDepth 20000 in
theorem in_wsL_law_r53 : ∀ w ∈ wsL_law_r53, w ∈ lw_tbl := pl_in [1506, 1507, 1508, 1088, 1509, 1511, 71, 1512, 1513] (by decide +kernel)
set_option maxRecDepth 20000 in
theorem in_wsX100 : ∀ w ∈ wsX100, w ∈ lw_tbl := pl_in [297, 299, 301] (by decide +kernel)
set_option maxRecDepth 20000 in
theorem in_wsX110 : ∀ w ∈ wsX110, w ∈ lw_tbl := pl_in [337, 339, 341, 343, 345, 347, 349, 351, 353, 355, 357, 359, 361, 363, 365] (by decide +kernel)
set_option maxRecDepth 20000 in
theorem in_wsX120 : ∀ w ∈ wsX120, w ∈ lw_tbl := pl_in [1089, 1091, 1093, 1095, 1097, 1099, 1101, 1103, 1105, 1107, 1109, 1111, 1113, 1115, 1117, 1119, 1121, 1123, 1125, 1127] (by decide +kernel)
set_option maxRecDepth 20000 in
theorem in_wsX30 : ∀ w ∈ wsX30, w ∈ lw_tbl := pl_in [180, 182, 184, 186, 188, 190, 192, 194, 196] (by decide +kernel)
set_option maxRecDepth 20000 in
theorem in_wsX40 : ∀ w ∈ wsX40, w ∈ lw_tbl := pl_in [144, 146, 148, 150] (by decide +kernel)
set_option maxRecDepth 20000 in
theorem in_wsX50 : ∀ w ∈ wsX50, w ∈ lw_tbl := pl_in [265, 267, 269, 271, 273, 275, 277, 279, 281, 283] (by decide +kernel)
set_option maxRecDepth 20000 in
theorem in_wsX60 : ∀ w ∈ wsX60, w ∈ lw_tbl := pl_in [315, 317, 319] (by decide +kernel)
set_option maxRecDepth 20000 in
theorem in_wsX70 : ∀ w ∈ wsX70, w ∈ lw_tbl := pl_in [117, 119] (by decide +kernel)
set_option maxRecDepth 20000 in
theorem in_wsX80 : ∀ w ∈ wsX80, w ∈ lw_tbl := pl_in [221, 223, 225, 227, 229, 231, 233, 235, 237] (by decide +kernel)
set_option maxRecDepth 20000 in
theorem wsL_law_in : ∀ w ∈ wsL_law, w ∈ lw_tbl := (pl_app (pl_app (pl_app (pl_app (pl_app (pl_app (pl_app (pl_app (pl_app (pl_app (pl_app in_wsL_law_r1 (pl_app in_wsL_law_r2 (pl_app in_wsL_law_r3 (pl_app in_wsL_law_r4 (pl_app in_wsL_law_r5 (pl_app in_wsL_law_r6 (pl_app in_wsL_law_r7 (pl_app in_wsL_law_r8 (pl_app in_wsL_law_r9 (pl_app in_wsL_law_r10 (pl_app in_wsL_law_r11 (pl_app in_wsL_law_r12 (pl_app in_wsL_law_r13 (pl_app in_wsL_law_r14 (pl_app in_wsL_law_r15 (pl_app in_wsL_law_r16 (pl_app in_wsL_law_r17 (pl_app in_wsL_law_r18 (pl_app in_wsL_law_r19 (pl_app in_wsL_law_r20 (pl_app in_wsL_law_r21 (pl_app in_wsL_law_r22 (pl_app in_wsL_law_r23 (pl_app in_wsL_law_r24 (pl_app in_wsL_law_r25 (pl_app in_wsL_law_r26 (pl_app in_wsL_law_r27 (pl_app in_wsL_law_r28 (pl_app in_wsL_law_r29 (pl_app in_wsL_law_r30 (pl_app in_wsL_law_r31 (pl_app in_wsL_law_r32 (pl_app in_wsL_law_r33 (pl_app in_wsL_law_r34 (pl_app in_wsL_law_r35 (pl_app in_wsL_law_r36 (pl_app in_wsL_law_r37 (pl_app in_wsL_law_r38 (pl_app in_wsL_law_r39 (pl_app in_wsL_law_r40 (pl_app in_wsL_law_r41 (pl_app in_wsL_law_r42 (pl_app in_wsL_law_r43 (pl_app in_wsL_law_r44 (pl_app in_wsL_law_r45 (pl_app in_wsL_law_r46 (pl_app in_wsL_law_r47 (pl_app in_wsL_law_r48 (pl_app in_wsL_law_r49 (pl_app in_wsL_law_r50 (pl_app in_wsL_law_r51 (pl_app in_wsL_law_r52 in_wsL_law_r53)))))))))))))))))))))))))))))))))))))))))))))))))))) in_wsX110) in_wsX120) in_wsX30) in_wsX70) in_wsX80) in_wsX40) in_wsX50) in_wsX100) in_wsX60) (fun _ h => absurd h List.not_mem_nil))
