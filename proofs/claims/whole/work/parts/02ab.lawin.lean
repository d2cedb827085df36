theorem mem_pos {big ws : List Cond} (ps : List Nat) (hp : ws = ps.filterMap (fun i => big[i]?)) : ∀ w ∈ ws, w ∈ big := by
  intro w hw
  rw [hp] at hw
  obtain ⟨i, -, hi⟩ := List.mem_filterMap.mp hw
  exact List.mem_of_getElem? hi
set_option maxRecDepth 100000 in
theorem in_wsL_law_r1 : ∀ w ∈ wsL_law_r1, w ∈ lw_tbl := mem_pos [90, 91, 73, 1029, 1030, 82, 1577, 92, 93, 94, 95, 96, 97, 98, 99, 74, 362, 115, 116, 75, 363, 148, 149, 76] (by decide +kernel)
set_option maxRecDepth 100000 in
theorem in_wsL_law_r2 : ∀ w ∈ wsL_law_r2, w ∈ lw_tbl := mem_pos [364, 365, 200, 201, 77, 366, 367, 229, 230, 78, 368, 369, 370, 279, 280, 79, 371, 299, 300, 80, 372, 333, 334, 81] (by decide +kernel)
set_option maxRecDepth 100000 in
theorem in_wsL_law_r3 : ∀ w ∈ wsL_law_r3, w ∈ lw_tbl := mem_pos [373, 374, 375, 101, 102, 103, 114, 104, 106, 117, 118, 119, 120, 122, 123, 124, 125, 126, 127, 129, 121, 151, 152, 153] (by decide +kernel)
set_option maxRecDepth 100000 in
theorem in_wsL_law_r4 : ∀ w ∈ wsL_law_r4, w ∈ lw_tbl := mem_pos [154, 158, 160, 162, 164, 166, 169, 172, 174, 176, 203, 204, 205, 206, 208, 209, 210, 211, 212, 213, 232, 233, 234, 235] (by decide +kernel)
set_option maxRecDepth 100000 in
theorem in_wsL_law_r5 : ∀ w ∈ wsL_law_r5, w ∈ lw_tbl := mem_pos [237, 239, 243, 245, 248, 250, 252, 254, 256, 281, 282, 283, 284, 288, 289, 285, 286, 301, 302, 303, 304, 307, 308, 309] (by decide +kernel)
set_option maxRecDepth 100000 in
theorem in_wsL_law_r6 : ∀ w ∈ wsL_law_r6, w ∈ lw_tbl := mem_pos [310, 312, 314, 305, 306, 335, 336, 337, 338, 340, 341, 361, 342, 343, 344, 345, 339, 1031, 1032, 1033, 1034, 1036, 1037, 1038] (by decide +kernel)
set_option maxRecDepth 100000 in
theorem in_wsL_law_r7 : ∀ w ∈ wsL_law_r7, w ∈ lw_tbl := mem_pos [1040, 1041, 1042, 1044, 1045, 1046, 1047, 1049, 1050, 1051, 1052, 1053, 1055, 1063, 1064, 1065, 1067, 1068, 1069, 1071, 1072, 1073, 1074, 1077] (by decide +kernel)
set_option maxRecDepth 100000 in
theorem in_wsL_law_r8 : ∀ w ∈ wsL_law_r8, w ∈ lw_tbl := mem_pos [1078, 1079, 1080, 1083, 1084, 1088, 1089, 1035, 405, 406, 407, 408, 107, 409, 410, 411, 412, 1201, 1202, 1203, 1204, 1205, 1054, 1209] (by decide +kernel)
set_option maxRecDepth 100000 in
theorem in_wsL_law_r9 : ∀ w ∈ wsL_law_r9, w ∈ lw_tbl := mem_pos [1206, 1207, 1208, 413, 414, 415, 416, 130, 128, 236, 249, 156, 417, 418, 419, 420, 421, 422, 423, 424, 108, 105, 425, 426] (by decide +kernel)
set_option maxRecDepth 100000 in
theorem in_wsL_law_r10 : ∀ w ∈ wsL_law_r10, w ∈ lw_tbl := mem_pos [427, 428, 429, 430, 431, 432, 433, 434, 435, 437, 438, 439, 440, 441, 442, 443, 83, 444, 1578, 445, 446, 447, 448, 449] (by decide +kernel)
set_option maxRecDepth 100000 in
theorem in_wsL_law_r11 : ∀ w ∈ wsL_law_r11, w ∈ lw_tbl := mem_pos [1579, 451, 452, 453, 454, 455, 456, 457, 458, 459, 460, 84, 461, 462, 463, 464, 465, 467, 468, 85, 469, 470, 471, 86] (by decide +kernel)
set_option maxRecDepth 100000 in
theorem in_wsL_law_r12 : ∀ w ∈ wsL_law_r12, w ∈ lw_tbl := mem_pos [472, 473, 474, 475, 476, 477, 478, 479, 480, 481, 482, 483, 485, 487, 489, 491, 0, 492, 493, 494, 495, 496, 497, 498] (by decide +kernel)
set_option maxRecDepth 100000 in
theorem in_wsL_law_r13 : ∀ w ∈ wsL_law_r13, w ∈ lw_tbl := mem_pos [500, 1, 501, 503, 504, 505, 506, 507, 508, 510, 2, 511, 512, 513, 514, 515, 516, 518, 3, 519, 520, 522, 523, 524] (by decide +kernel)
set_option maxRecDepth 100000 in
theorem in_wsL_law_r14 : ∀ w ∈ wsL_law_r14, w ∈ lw_tbl := mem_pos [525, 526, 527, 528, 529, 530, 531, 532, 534, 4, 535, 537, 539, 5, 540, 542, 543, 544, 545, 546, 547, 549, 6, 550] (by decide +kernel)
set_option maxRecDepth 100000 in
theorem in_wsL_law_r15 : ∀ w ∈ wsL_law_r15, w ∈ lw_tbl := mem_pos [551, 553, 552, 87, 554, 555, 556, 557, 560, 562, 7, 563, 565, 566, 567, 568, 569, 571, 572, 573, 574, 1210, 1211, 1212] (by decide +kernel)
set_option maxRecDepth 100000 in
theorem in_wsL_law_r16 : ∀ w ∈ wsL_law_r16, w ∈ lw_tbl := mem_pos [1213, 1056, 1057, 1062, 1066, 1214, 1216, 27, 1217, 1218, 1220, 28, 1221, 1058, 1059, 1222, 1224, 29, 1225, 1226, 1227, 1228, 1229, 1230] (by decide +kernel)
set_option maxRecDepth 100000 in
theorem in_wsL_law_r17 : ∀ w ∈ wsL_law_r17, w ∈ lw_tbl := mem_pos [1231, 1232, 1233, 1234, 1235, 1236, 1237, 1238, 1240, 30, 1241, 1242, 1244, 31, 1245, 1060, 1246, 1248, 32, 1249, 1070, 1250, 1252, 33] (by decide +kernel)
set_option maxRecDepth 100000 in
theorem in_wsL_law_r18 : ∀ w ∈ wsL_law_r18, w ∈ lw_tbl := mem_pos [1253, 1061, 1254, 1256, 34, 1257, 1258, 1259, 1260, 1261, 1262, 1263, 1265, 35, 1266, 1267, 1269, 36, 1270, 1271, 1273, 37, 1274, 1275] (by decide +kernel)
set_option maxRecDepth 100000 in
theorem in_wsL_law_r19 : ∀ w ∈ wsL_law_r19, w ∈ lw_tbl := mem_pos [1277, 38, 1278, 1279, 1281, 39, 1282, 1039, 1043, 1048, 1283, 1285, 40, 1286, 1287, 1289, 41, 1290, 576, 577, 578, 579, 207, 580] (by decide +kernel)
set_option maxRecDepth 100000 in
theorem in_wsL_law_r20 : ∀ w ∈ wsL_law_r20, w ∈ lw_tbl := mem_pos [581, 582, 583, 584, 585, 587, 8, 588, 590, 591, 593, 9, 594, 595, 596, 597, 599, 601, 10, 602, 604, 606, 11, 607] (by decide +kernel)
set_option maxRecDepth 100000 in
theorem in_wsL_law_r21 : ∀ w ∈ wsL_law_r21, w ∈ lw_tbl := mem_pos [609, 611, 12, 612, 613, 614, 615, 616, 617, 618, 619, 620, 1549, 1550, 1551, 1552, 1082, 1085, 1086, 1087, 1076, 1081, 1553, 1555] (by decide +kernel)
set_option maxRecDepth 100000 in
theorem in_wsL_law_r22 : ∀ w ∈ wsL_law_r22, w ∈ lw_tbl := mem_pos [69, 1556, 1557, 1559, 70, 1560, 1561, 1563, 71, 1564, 621, 622, 623, 624, 1291, 1292, 1293, 1294, 625, 626, 627, 628, 159, 161] (by decide +kernel)
set_option maxRecDepth 100000 in
theorem in_wsL_law_r23 : ∀ w ∈ wsL_law_r23, w ∈ lw_tbl := mem_pos [163, 629, 630, 631, 632, 633, 634, 635, 636, 637, 638, 639, 640, 641, 642, 643, 644, 1295, 1296, 1297, 1298, 1299, 1301, 42] (by decide +kernel)
set_option maxRecDepth 100000 in
theorem in_wsL_law_r24 : ∀ w ∈ wsL_law_r24, w ∈ lw_tbl := mem_pos [1302, 1303, 1305, 43, 1306, 1307, 1309, 44, 1310, 645, 646, 647, 648, 165, 649, 650, 651, 1311, 1312, 1313, 1314, 1315, 1316, 1317] (by decide +kernel)
set_option maxRecDepth 100000 in
theorem in_wsL_law_r25 : ∀ w ∈ wsL_law_r25, w ∈ lw_tbl := mem_pos [1318, 652, 653, 654, 655, 168, 1319, 1320, 1321, 1322, 1323, 1325, 45, 1326, 656, 657, 658, 659, 173, 175, 178, 660, 661, 662] (by decide +kernel)
set_option maxRecDepth 100000 in
theorem in_wsL_law_r26 : ∀ w ∈ wsL_law_r26, w ∈ lw_tbl := mem_pos [663, 1327, 1328, 1329, 1330, 1331, 1333, 46, 1334, 664, 665, 666, 667, 171, 1335, 1336, 1337, 1338, 668, 669, 670, 671, 672, 673] (by decide +kernel)
set_option maxRecDepth 100000 in
theorem in_wsL_law_r27 : ∀ w ∈ wsL_law_r27, w ∈ lw_tbl := mem_pos [674, 675, 167, 679, 677, 678, 1339, 1340, 1341, 1342, 680, 681, 682, 683, 238, 242, 244, 684, 685, 686, 687, 688, 689, 690] (by decide +kernel)
set_option maxRecDepth 100000 in
theorem in_wsL_law_r28 : ∀ w ∈ wsL_law_r28, w ∈ lw_tbl := mem_pos [691, 692, 693, 694, 695, 1343, 1344, 1345, 1346, 1347, 1349, 47, 1350, 1351, 1353, 48, 1354, 1355, 1357, 49, 1358, 696, 697, 698] (by decide +kernel)
set_option maxRecDepth 100000 in
theorem in_wsL_law_r29 : ∀ w ∈ wsL_law_r29, w ∈ lw_tbl := mem_pos [699, 247, 1359, 1360, 1361, 1362, 700, 701, 702, 703, 704, 705, 706, 707, 708, 1363, 1364, 1365, 1366, 1367, 1369, 50, 1370, 1371] (by decide +kernel)
set_option maxRecDepth 100000 in
theorem in_wsL_law_r30 : ∀ w ∈ wsL_law_r30, w ∈ lw_tbl := mem_pos [1373, 51, 1374, 709, 710, 711, 712, 713, 714, 715, 716, 717, 718, 719, 88, 720, 721, 722, 723, 1375, 1376, 1377, 1378, 1379] (by decide +kernel)
set_option maxRecDepth 100000 in
theorem in_wsL_law_r31 : ∀ w ∈ wsL_law_r31, w ∈ lw_tbl := mem_pos [1381, 52, 1382, 1383, 1385, 53, 1386, 1387, 1388, 1389, 724, 725, 726, 727, 728, 729, 730, 731, 732, 733, 734, 735, 736, 737] (by decide +kernel)
set_option maxRecDepth 100000 in
theorem in_wsL_law_r32 : ∀ w ∈ wsL_law_r32, w ∈ lw_tbl := mem_pos [738, 739, 1390, 1391, 1392, 1393, 740, 741, 742, 743, 744, 745, 746, 747, 241, 246, 749, 750, 752, 13, 753, 754, 755, 756] (by decide +kernel)
set_option maxRecDepth 100000 in
theorem in_wsL_law_r33 : ∀ w ∈ wsL_law_r33, w ∈ lw_tbl := mem_pos [757, 758, 759, 760, 761, 157, 762, 764, 14, 765, 766, 767, 1394, 1395, 1396, 1397, 1398, 1400, 54, 1401, 1402, 1404, 55, 1405] (by decide +kernel)
set_option maxRecDepth 100000 in
theorem in_wsL_law_r34 : ∀ w ∈ wsL_law_r34, w ∈ lw_tbl := mem_pos [768, 769, 770, 771, 1406, 1407, 1408, 1409, 772, 773, 774, 775, 776, 777, 778, 779, 780, 782, 15, 783, 1410, 1411, 1412, 1413] (by decide +kernel)
set_option maxRecDepth 100000 in
theorem in_wsL_law_r35 : ∀ w ∈ wsL_law_r35, w ∈ lw_tbl := mem_pos [1414, 1416, 56, 1417, 784, 785, 786, 787, 788, 789, 790, 791, 793, 794, 795, 796, 240, 170, 177, 797, 799, 800, 801, 802] (by decide +kernel)
set_option maxRecDepth 100000 in
theorem in_wsL_law_r36 : ∀ w ∈ wsL_law_r36, w ∈ lw_tbl := mem_pos [803, 804, 806, 16, 807, 808, 1418, 1419, 1420, 1421, 1422, 1424, 57, 1425, 1426, 1428, 58, 1429, 809, 810, 811, 812, 311, 313] (by decide +kernel)
set_option maxRecDepth 100000 in
theorem in_wsL_law_r37 : ∀ w ∈ wsL_law_r37, w ∈ lw_tbl := mem_pos [315, 813, 814, 815, 816, 817, 819, 821, 17, 822, 823, 824, 825, 826, 827, 828, 829, 1430, 1431, 1432, 1433, 1434, 1435, 1436] (by decide +kernel)
set_option maxRecDepth 100000 in
theorem in_wsL_law_r38 : ∀ w ∈ wsL_law_r38, w ∈ lw_tbl := mem_pos [1437, 1439, 59, 1440, 830, 831, 832, 833, 834, 835, 89, 836, 837, 838, 839, 840, 841, 842, 1441, 1442, 1443, 1444, 843, 844] (by decide +kernel)
set_option maxRecDepth 100000 in
theorem in_wsL_law_r39 : ∀ w ∈ wsL_law_r39, w ∈ lw_tbl := mem_pos [845, 846, 847, 848, 849, 850, 851, 852, 853, 854, 855, 856, 857, 1445, 1446, 1447, 1448, 1449, 1450, 1451, 1452, 858, 859, 860] (by decide +kernel)
set_option maxRecDepth 100000 in
theorem in_wsL_law_r40 : ∀ w ∈ wsL_law_r40, w ∈ lw_tbl := mem_pos [861, 251, 253, 255, 862, 863, 864, 865, 1453, 1454, 1455, 1456, 1457, 1459, 60, 1460, 866, 867, 868, 869, 1461, 1462, 1463, 1464] (by decide +kernel)
set_option maxRecDepth 100000 in
theorem in_wsL_law_r41 : ∀ w ∈ wsL_law_r41, w ∈ lw_tbl := mem_pos [870, 871, 872, 873, 257, 1465, 1466, 1467, 1468, 874, 875, 876, 877, 878, 880, 18, 881, 1469, 1470, 1471, 1472, 1473, 1475, 61] (by decide +kernel)
set_option maxRecDepth 100000 in
theorem in_wsL_law_r42 : ∀ w ∈ wsL_law_r42, w ∈ lw_tbl := mem_pos [1476, 882, 883, 884, 885, 890, 891, 892, 886, 887, 888, 889, 1477, 1478, 1479, 1480, 893, 894, 895, 896, 1481, 1482, 1483, 1484] (by decide +kernel)
set_option maxRecDepth 100000 in
theorem in_wsL_law_r43 : ∀ w ∈ wsL_law_r43, w ∈ lw_tbl := mem_pos [897, 898, 899, 900, 901, 903, 19, 904, 1485, 1486, 1487, 1488, 905, 906, 907, 908, 909, 910, 911, 912, 913, 915, 20, 916] (by decide +kernel)
set_option maxRecDepth 100000 in
theorem in_wsL_law_r44 : ∀ w ∈ wsL_law_r44, w ∈ lw_tbl := mem_pos [917, 918, 919, 920, 1489, 1490, 1491, 1492, 1493, 1495, 62, 1496, 921, 922, 923, 924, 925, 927, 21, 928, 929, 930, 931, 932] (by decide +kernel)
set_option maxRecDepth 100000 in
theorem in_wsL_law_r45 : ∀ w ∈ wsL_law_r45, w ∈ lw_tbl := mem_pos [933, 934, 935, 936, 155, 939, 940, 942, 22, 943, 944, 945, 946, 948, 23, 949, 950, 951, 952, 953, 1497, 1498, 1499, 1500] (by decide +kernel)
set_option maxRecDepth 100000 in
theorem in_wsL_law_r46 : ∀ w ∈ wsL_law_r46, w ∈ lw_tbl := mem_pos [1501, 1503, 63, 1504, 1505, 1507, 64, 1508, 1509, 1511, 65, 1512, 1513, 1515, 66, 1516, 1075, 1517, 1519, 67, 1520, 1521, 1523, 68] (by decide +kernel)
set_option maxRecDepth 100000 in
theorem in_wsL_law_r47 : ∀ w ∈ wsL_law_r47, w ∈ lw_tbl := mem_pos [1524, 954, 955, 956, 957, 958, 959, 960, 961, 962, 964, 24, 965, 1525, 1526, 1527, 1528, 966, 967, 968, 969, 1529, 1530, 1531] (by decide +kernel)
set_option maxRecDepth 100000 in
theorem in_wsL_law_r48 : ∀ w ∈ wsL_law_r48, w ∈ lw_tbl := mem_pos [1532, 970, 971, 972, 973, 1533, 1534, 1535, 1536, 974, 975, 976, 977, 1537, 1538, 1539, 1540, 978, 979, 980, 981, 982, 984, 25] (by decide +kernel)
set_option maxRecDepth 100000 in
theorem in_wsL_law_r49 : ∀ w ∈ wsL_law_r49, w ∈ lw_tbl := mem_pos [985, 1541, 1542, 1543, 1544, 986, 987, 988, 989, 1545, 1546, 1547, 1548, 990, 991, 992, 993, 994, 995, 996, 997, 998, 999, 1000] (by decide +kernel)
set_option maxRecDepth 100000 in
theorem in_wsL_law_r50 : ∀ w ∈ wsL_law_r50, w ∈ lw_tbl := mem_pos [1001, 1002, 1004, 1005, 1006, 1007, 1008, 1009, 1010, 1011, 1012, 1565, 1566, 1567, 1568, 1013, 1014, 1015, 1016, 1017, 1019, 26, 1020, 1021] (by decide +kernel)
set_option maxRecDepth 100000 in
theorem in_wsL_law_r51 : ∀ w ∈ wsL_law_r51, w ∈ lw_tbl := mem_pos [1022, 1023, 1024, 1569, 1570, 1571, 1572, 1025, 1026, 1027, 1028, 1573, 1574, 1575, 1576] (by decide +kernel)
set_option maxRecDepth 100000 in
theorem in_wsX80 : ∀ w ∈ wsX80, w ∈ lw_tbl := mem_pos [376, 378, 380, 382, 384, 386, 388, 390, 392, 394, 396, 398, 400, 402] (by decide +kernel)
set_option maxRecDepth 100000 in
theorem in_wsX90 : ∀ w ∈ wsX90, w ∈ lw_tbl := mem_pos [1090, 1092, 1094, 1096, 1098, 1100, 1102, 1104, 1106, 1108, 1110, 1112, 1114, 1116, 1118, 1120, 1122, 1124, 1126, 1128, 1130, 1132, 1134, 1136, 1138, 1140, 1142, 1144, 1146, 1148, 1150, 1152, 1154, 1156, 1158, 1160, 1162, 1164, 1166, 1168, 1170, 1172, 1174, 1176, 1178, 1180, 1182, 1184, 1186, 1188, 1190, 1192, 1194, 1196, 1198] (by decide +kernel)
set_option maxRecDepth 100000 in
theorem in_wsX60 : ∀ w ∈ wsX60, w ∈ lw_tbl := mem_pos [109, 111] (by decide +kernel)
set_option maxRecDepth 100000 in
theorem in_wsX30 : ∀ w ∈ wsX30, w ∈ lw_tbl := mem_pos [131, 133, 135, 137, 139, 141, 143, 145] (by decide +kernel)
set_option maxRecDepth 100000 in
theorem in_wsX70 : ∀ w ∈ wsX70, w ∈ lw_tbl := mem_pos [179, 181, 183, 185, 187, 189, 191, 193, 195, 197] (by decide +kernel)
set_option maxRecDepth 100000 in
theorem in_wsX50 : ∀ w ∈ wsX50, w ∈ lw_tbl := mem_pos [214, 216, 218, 220, 222, 224, 226] (by decide +kernel)
set_option maxRecDepth 100000 in
theorem in_wsX00 : ∀ w ∈ wsX00, w ∈ lw_tbl := mem_pos [258, 260, 262, 264, 266, 268, 270, 272, 274, 276] (by decide +kernel)
set_option maxRecDepth 100000 in
theorem in_wsX20 : ∀ w ∈ wsX20, w ∈ lw_tbl := mem_pos [290, 292, 294, 296] (by decide +kernel)
set_option maxRecDepth 100000 in
theorem in_wsX10 : ∀ w ∈ wsX10, w ∈ lw_tbl := mem_pos [316, 318, 320, 322, 324, 326, 328, 330] (by decide +kernel)
set_option maxRecDepth 100000 in
theorem in_wsX40 : ∀ w ∈ wsX40, w ∈ lw_tbl := mem_pos [346, 348, 350, 352, 354, 356, 358] (by decide +kernel)
theorem wsL_law_in : ∀ w ∈ wsL_law, w ∈ lw_tbl := by
  unfold wsL_law
  exact List.forall_mem_append.mpr ⟨List.forall_mem_append.mpr ⟨List.forall_mem_append.mpr ⟨List.forall_mem_append.mpr ⟨List.forall_mem_append.mpr ⟨List.forall_mem_append.mpr ⟨List.forall_mem_append.mpr ⟨List.forall_mem_append.mpr ⟨List.forall_mem_append.mpr ⟨List.forall_mem_append.mpr ⟨List.forall_mem_append.mpr ⟨List.forall_mem_append.mpr ⟨in_wsL_law_r1, List.forall_mem_append.mpr ⟨in_wsL_law_r2, List.forall_mem_append.mpr ⟨in_wsL_law_r3, List.forall_mem_append.mpr ⟨in_wsL_law_r4, List.forall_mem_append.mpr ⟨in_wsL_law_r5, List.forall_mem_append.mpr ⟨in_wsL_law_r6, List.forall_mem_append.mpr ⟨in_wsL_law_r7, List.forall_mem_append.mpr ⟨in_wsL_law_r8, List.forall_mem_append.mpr ⟨in_wsL_law_r9, List.forall_mem_append.mpr ⟨in_wsL_law_r10, List.forall_mem_append.mpr ⟨in_wsL_law_r11, List.forall_mem_append.mpr ⟨in_wsL_law_r12, List.forall_mem_append.mpr ⟨in_wsL_law_r13, List.forall_mem_append.mpr ⟨in_wsL_law_r14, List.forall_mem_append.mpr ⟨in_wsL_law_r15, List.forall_mem_append.mpr ⟨in_wsL_law_r16, List.forall_mem_append.mpr ⟨in_wsL_law_r17, List.forall_mem_append.mpr ⟨in_wsL_law_r18, List.forall_mem_append.mpr ⟨in_wsL_law_r19, List.forall_mem_append.mpr ⟨in_wsL_law_r20, List.forall_mem_append.mpr ⟨in_wsL_law_r21, List.forall_mem_append.mpr ⟨in_wsL_law_r22, List.forall_mem_append.mpr ⟨in_wsL_law_r23, List.forall_mem_append.mpr ⟨in_wsL_law_r24, List.forall_mem_append.mpr ⟨in_wsL_law_r25, List.forall_mem_append.mpr ⟨in_wsL_law_r26, List.forall_mem_append.mpr ⟨in_wsL_law_r27, List.forall_mem_append.mpr ⟨in_wsL_law_r28, List.forall_mem_append.mpr ⟨in_wsL_law_r29, List.forall_mem_append.mpr ⟨in_wsL_law_r30, List.forall_mem_append.mpr ⟨in_wsL_law_r31, List.forall_mem_append.mpr ⟨in_wsL_law_r32, List.forall_mem_append.mpr ⟨in_wsL_law_r33, List.forall_mem_append.mpr ⟨in_wsL_law_r34, List.forall_mem_append.mpr ⟨in_wsL_law_r35, List.forall_mem_append.mpr ⟨in_wsL_law_r36, List.forall_mem_append.mpr ⟨in_wsL_law_r37, List.forall_mem_append.mpr ⟨in_wsL_law_r38, List.forall_mem_append.mpr ⟨in_wsL_law_r39, List.forall_mem_append.mpr ⟨in_wsL_law_r40, List.forall_mem_append.mpr ⟨in_wsL_law_r41, List.forall_mem_append.mpr ⟨in_wsL_law_r42, List.forall_mem_append.mpr ⟨in_wsL_law_r43, List.forall_mem_append.mpr ⟨in_wsL_law_r44, List.forall_mem_append.mpr ⟨in_wsL_law_r45, List.forall_mem_append.mpr ⟨in_wsL_law_r46, List.forall_mem_append.mpr ⟨in_wsL_law_r47, List.forall_mem_append.mpr ⟨in_wsL_law_r48, List.forall_mem_append.mpr ⟨in_wsL_law_r49, List.forall_mem_append.mpr ⟨in_wsL_law_r50, in_wsL_law_r51⟩⟩⟩⟩⟩⟩⟩⟩⟩⟩⟩⟩⟩⟩⟩⟩⟩⟩⟩⟩⟩⟩⟩⟩⟩⟩⟩⟩⟩⟩⟩⟩⟩⟩⟩⟩⟩⟩⟩⟩⟩⟩⟩⟩⟩⟩⟩⟩⟩⟩, in_wsX80⟩, in_wsX90⟩, in_wsX60⟩, in_wsX30⟩, in_wsX70⟩, in_wsX50⟩, in_wsX00⟩, in_wsX20⟩, in_wsX10⟩, in_wsX40⟩, (fun _ h => absurd h List.not_mem_nil)⟩
