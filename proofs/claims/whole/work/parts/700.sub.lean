/-! the words of TB lie in the tables -/
theorem sub_of {is : List Nat} {c : List Cond} (h : is.map (fun i => lw_tbl[i]?) = c.map some) : ∀ w ∈ c, w ∈ lw_tbl := by
  intro w hw
  have h1 : some w ∈ c.map some := List.mem_map.mpr ⟨w, hw, rfl⟩
  rw [← h] at h1
  obtain ⟨i, _, hi⟩ := List.mem_map.mp h1
  exact List.mem_of_getElem? hi
theorem sub_s0 : ∀ w ∈ tb0, w ∈ lw_tbl := sub_of (is := [197, 198, 174, 175, 192, 199, 201, 203, 206, 545, 546, 548, 547, 159, 644, 624, 562, 576, 577, 1737, 572, 1736, 573, 574, 575, 161, 586, 597, 592, 593, 595, 596]) (by decide +kernel)
theorem sub_s1 : ∀ w ∈ tb1, w ∈ lw_tbl := sub_of (is := [163, 589, 590, 591, 606, 603, 604, 605, 164, 607, 610, 611, 613, 615, 600, 601, 602, 608, 609, 583, 584, 585, 587, 588, 162, 598, 599, 582, 568, 561, 3, 150]) (by decide +kernel)
theorem sub_s2 : ∀ w ∈ tb2, w ∈ lw_tbl := sub_of (is := [569, 570, 571, 579, 580, 581, 680, 620, 617, 619, 5, 567, 635, 537, 631, 632, 634, 8, 636, 623, 6, 536, 148, 677, 679, 16, 675, 229, 230, 231, 235, 239]) (by decide +kernel)
theorem sub_s3 : ∀ w ∈ tb3, w ∈ lw_tbl := sub_of (is := [243, 247, 329, 251, 255, 259, 260, 264, 267, 270, 271, 273, 276, 279, 282, 284, 287, 555, 693, 694, 695, 165, 696, 697, 691, 692, 152, 690, 648, 671, 655, 663]) (by decide +kernel)
theorem sub_s4 : ∀ w ∈ tb4, w ∈ lw_tbl := sub_of (is := [664, 654, 11, 660, 662, 13, 920, 769, 858, 859, 768, 23, 659, 785, 781, 782, 784, 26, 951, 823, 824, 825, 826, 471, 833, 830, 457, 456, 472, 831, 832, 167]) (by decide +kernel)
theorem sub_s5 : ∀ w ∈ tb5, w ∈ lw_tbl := sub_of (is := [465, 461, 463, 459, 820, 822, 33, 157, 827, 829, 34, 819, 818, 32, 815, 812, 814, 31, 811, 837, 838, 780, 25, 846, 842, 843, 845, 37, 808, 810, 30, 834]) (by decide +kernel)
theorem sub_s6 : ∀ w ∈ tb6, w ∈ lw_tbl := sub_of (is := [836, 35, 839, 841, 36, 807, 1022, 1023, 950, 50, 627, 630, 7, 643, 9, 647, 10, 640, 658, 12, 651, 670, 14, 667, 566, 4, 625, 626, 160, 638, 639, 649]) (by decide +kernel)
theorem sub_s7 : ∀ w ∈ tb7, w ∈ lw_tbl := sub_of (is := [650, 665, 666, 558, 554, 2, 556, 557, 674, 15, 551, 334, 335, 336, 337, 338, 339, 1031, 1108, 1109, 1049, 1047, 1048, 153, 806, 29, 1046, 412, 413, 414, 416, 914]) (by decide +kernel)
theorem sub_s8 : ∀ w ∈ tb8, w ∈ lw_tbl := sub_of (is := [915, 925, 926, 934, 930, 931, 933, 47, 156, 384, 385, 388, 389, 390, 226, 228, 383, 799, 689, 18, 797, 882, 701, 454, 455, 467, 469, 494, 712, 734, 729, 724]) (by decide +kernel)
theorem sub_s9 : ∀ w ∈ tb9, w ∈ lw_tbl := sub_of (is := [727, 728, 166, 733, 21, 722, 720, 721, 719, 749, 742, 743, 739, 740, 717, 718, 747, 748, 741, 744, 711, 20, 708, 180, 181, 182, 184, 530, 405, 406, 424, 408]) (by decide +kernel)
theorem sub_s10 : ∀ w ∈ tb10, w ∈ lw_tbl := sub_of (is := [409, 426, 427, 428, 430, 431, 432, 433, 411, 404, 890, 963, 938, 913, 43, 916, 889, 41, 155, 919, 44, 924, 45, 929, 46, 910, 947, 960, 962, 52, 959, 986]) (by decide +kernel)
theorem sub_s11 : ∀ w ∈ tb11, w ∈ lw_tbl := sub_of (is := [974, 978, 972, 973, 975, 977, 54, 971, 994, 1004, 1013, 857, 39, 1012, 1042, 1040, 1041, 1045, 62, 1039, 1063, 1064, 1060, 1062, 64, 1058, 1072, 1085, 1086, 1087, 1088, 1089]) (by decide +kernel)
theorem sub_s12 : ∀ w ∈ tb12, w ∈ lw_tbl := sub_of (is := [1084, 224, 351, 353, 355, 225, 358, 360, 330, 331, 363, 333, 223, 686, 1107, 68, 1104, 173, 176, 177, 149, 495, 193, 194, 496, 217, 497, 498, 219, 220, 151, 499]) (by decide +kernel)
theorem sub_s13 : ∀ w ∈ tb13, w ∈ lw_tbl := sub_of (is := [379, 380, 154, 500, 501, 423, 502, 400, 401, 503, 451, 179, 196, 222, 382, 403, 453, 172, 526, 529, 0, 534, 535, 544, 1, 550, 685, 17, 700, 19, 541, 707]) (by decide +kernel)
theorem sub_s14 : ∀ w ∈ tb14, w ∈ lw_tbl := sub_of (is := [705, 757, 765, 761, 762, 764, 22, 777, 773, 774, 776, 24, 789, 803, 796, 27, 800, 802, 28, 793, 854, 851, 853, 38, 850, 863, 867, 874, 873, 881, 40, 878]) (by decide +kernel)
theorem sub_s15 : ∀ w ∈ tb15, w ∈ lw_tbl := sub_of (is := [886, 895, 899, 906, 904, 905, 909, 42, 937, 48, 903, 946, 49, 943, 958, 51, 955, 970, 53, 967, 985, 55, 982, 993, 56, 990, 1003, 57, 1000, 1011, 58, 1008]) (by decide +kernel)
theorem sub_s16 : ∀ w ∈ tb16, w ∈ lw_tbl := sub_of (is := [1018, 1021, 59, 1027, 1030, 60, 1038, 61, 1035, 1057, 63, 1054, 1071, 65, 1068, 1076, 1083, 66, 1080, 1095, 1103, 67, 1100, 1113, 1119, 1120, 1123, 1124, 1125, 1126, 1127, 1135]) (by decide +kernel)
theorem sub_s17 : ∀ w ∈ tb17, w ∈ lw_tbl := sub_of (is := [1137, 1139, 1140, 1141, 1143, 1145, 1147, 1148, 1149, 1150, 1151, 1152, 1153, 1155, 1156, 1157, 1158, 1118, 1313, 1449, 1245, 1121, 1241, 1242, 1244, 69, 158, 1249, 1286, 1129, 1265, 1128]) (by decide +kernel)
theorem sub_s18 : ∀ w ∈ tb18, w ∈ lw_tbl := sub_of (is := [1310, 1278, 1274, 1262, 1264, 72, 1275, 1277, 75, 1298, 1368, 1271, 1273, 74, 1295, 1297, 79, 1306, 1130, 1307, 1309, 82, 1283, 1285, 76, 1311, 1312, 1281, 1279, 1355, 1356, 1357]) (by decide +kernel)
theorem sub_s19 : ∀ w ∈ tb19, w ∈ lw_tbl := sub_of (is := [1358, 1359, 1360, 1361, 1280, 1362, 1363, 1354, 1350, 1131, 1346, 1132, 1381, 1133, 1136, 1396, 1393, 1394, 1395, 1347, 1349, 91, 1342, 1303, 1305, 81, 1343, 1345, 90, 1351, 1353, 92]) (by decide +kernel)
theorem sub_s20 : ∀ w ∈ tb20, w ∈ lw_tbl := sub_of (is := [1341, 1338, 1340, 89, 1337, 1334, 1336, 88, 1333, 1330, 1332, 87, 1385, 1377, 1378, 1380, 96, 1382, 1384, 97, 1376, 1400, 1390, 1392, 99, 1397, 1399, 100, 1389, 1401, 1402, 1373]) (by decide +kernel)
theorem sub_s21 : ∀ w ∈ tb21, w ∈ lw_tbl := sub_of (is := [1375, 95, 1386, 1388, 98, 1372, 1364, 1365, 1367, 93, 1369, 1371, 94, 1329, 1302, 1299, 1301, 80, 1294, 1317, 1321, 1325, 1270, 1291, 1293, 78, 1314, 1316, 83, 1318, 1320, 84]) (by decide +kernel)
theorem sub_s22 : ∀ w ∈ tb22, w ∈ lw_tbl := sub_of (is := [1322, 1324, 85, 1290, 1269, 1282, 1134, 1266, 1268, 73, 1287, 1289, 77, 1326, 1328, 86, 1261, 1258, 1260, 71, 1257, 1122, 1254, 1256, 70, 1253, 1410, 1146, 1407, 1409, 101, 1406]) (by decide +kernel)
theorem sub_s23 : ∀ w ∈ tb23, w ∈ lw_tbl := sub_of (is := [1418, 1515, 1138, 1519, 1522, 1511, 1512, 1514, 120, 1516, 1518, 121, 1520, 1521, 1486, 1426, 1461, 1453, 1470, 1534, 1577, 1430, 1438, 1427, 1429, 104, 1434, 1435, 1437, 106, 1446, 1447]) (by decide +kernel)
theorem sub_s24 : ∀ w ∈ tb24, w ∈ lw_tbl := sub_of (is := [1448, 1442, 1431, 1433, 105, 1443, 1445, 108, 1466, 1450, 1452, 109, 1467, 1469, 112, 1674, 1414, 1415, 1417, 102, 1423, 1425, 103, 1439, 1441, 107, 1422, 1457, 1462, 1458, 1460, 110]) (by decide +kernel)
theorem sub_s25 : ∀ w ∈ tb25, w ∈ lw_tbl := sub_of (is := [1463, 1465, 111, 1474, 1507, 1508, 1510, 119, 1503, 1504, 1506, 118, 1502, 1144, 1499, 1501, 117, 1498, 1526, 1530, 1531, 1533, 124, 1495, 1497, 116, 1523, 1525, 122, 1527, 1529, 123]) (by decide +kernel)
theorem sub_s26 : ∀ w ∈ tb26, w ∈ lw_tbl := sub_of (is := [1494, 1491, 1493, 115, 1573, 1490, 1478, 1483, 1485, 113, 1487, 1489, 114, 1482, 1542, 1546, 1538, 1539, 1541, 125, 1543, 1545, 126, 1550, 1551, 1555, 1559, 1560, 1569, 1581, 1565, 1566]) (by decide +kernel)
theorem sub_s27 : ∀ w ∈ tb27, w ∈ lw_tbl := sub_of (is := [1568, 127, 1570, 1572, 128, 1574, 1576, 129, 1578, 1580, 130, 1564, 1585, 1593, 1590, 1592, 131, 1589, 1603, 1619, 1615, 1616, 1618, 136, 1607, 1611, 1598, 1599, 1600, 1602, 132, 1604]) (by decide +kernel)
theorem sub_s28 : ∀ w ∈ tb28, w ∈ lw_tbl := sub_of (is := [1606, 133, 1608, 1610, 134, 1612, 1614, 135, 1597, 1627, 1624, 1626, 137, 1623, 1636, 1632, 1633, 1635, 138, 1631, 1640, 1649, 1645, 1646, 1648, 139, 1644, 1653, 1657, 1665, 1662, 1664]) (by decide +kernel)
theorem sub_s29 : ∀ w ∈ tb29, w ∈ lw_tbl := sub_of (is := [140, 1661, 1669, 1670, 1671, 1673, 141, 1678, 1694, 1691, 1693, 144, 1690, 1687, 1689, 143, 1686, 1683, 1685, 142, 1682, 1702, 1699, 1701, 145, 1698, 1706, 1710, 1142, 1719, 1154, 1720]) (by decide +kernel)
theorem sub_s30 : ∀ w ∈ tb30, w ∈ lw_tbl := sub_of (is := [1721, 1722, 1723, 1715, 1716, 1718, 146, 1714, 1727, 1731, 1735, 826, 696, 168, 169, 1114, 1115, 170, 171, 1116, 1117, 523, 524, 525, 1238, 1239, 1240, 531, 532, 533, 1246, 1247]) (by decide +kernel)
theorem sub_s31 : ∀ w ∈ tb31, w ∈ lw_tbl := sub_of (is := [1248, 538, 539, 540, 1403, 1404, 1405, 702, 703, 704, 1250, 1251, 1252, 754, 755, 756, 1411, 1412, 1413, 758, 759, 760, 1419, 1420, 1421, 770, 771, 772, 1454, 1455, 1456, 786]) (by decide +kernel)
theorem sub_s32 : ∀ w ∈ tb32, w ∈ lw_tbl := sub_of (is := [787, 788, 1471, 1472, 1473, 790, 791, 792, 1479, 1480, 1481, 847, 848, 849, 1535, 1536, 1537, 860, 861, 862, 1547, 1548, 1549, 864, 865, 866, 1552, 1553, 1554, 870, 871, 872]) (by decide +kernel)
theorem sub_s33 : ∀ w ∈ tb33, w ∈ lw_tbl := sub_of (is := [1556, 1557, 1558, 875, 876, 877, 1475, 1476, 1477, 883, 884, 885, 1561, 1562, 1563, 892, 893, 894, 1582, 1583, 1584, 896, 897, 898, 1586, 1587, 1588, 900, 901, 902, 1594, 1595]) (by decide +kernel)
theorem sub_s34 : ∀ w ∈ tb34, w ∈ lw_tbl := sub_of (is := [1596, 940, 941, 942, 1620, 1621, 1622, 952, 953, 954, 1628, 1629, 1630, 964, 965, 966, 1641, 1642, 1643, 979, 980, 981, 1637, 1638, 1639, 987, 988, 989, 1650, 1651, 1652, 997]) (by decide +kernel)
theorem sub_s35 : ∀ w ∈ tb35, w ∈ lw_tbl := sub_of (is := [998, 999, 1654, 1655, 1656, 1005, 1006, 1007, 1658, 1659, 1660, 1015, 1016, 1017, 1666, 1667, 1668, 1024, 1025, 1026, 1675, 1676, 1677, 1032, 1033, 1034, 1679, 1680, 1681, 1051, 1052, 1053]) (by decide +kernel)
theorem sub_s36 : ∀ w ∈ tb36, w ∈ lw_tbl := sub_of (is := [1695, 1696, 1697, 1065, 1066, 1067, 1703, 1704, 1705, 1073, 1074, 1075, 1707, 1708, 1709, 1077, 1078, 1079, 1711, 1712, 1713, 1092, 1093, 1094, 1724, 1725, 1726, 1097, 1098, 1099, 1728, 1729]) (by decide +kernel)
theorem sub_s37 : ∀ w ∈ tb37, w ∈ lw_tbl := sub_of (is := [1730, 1110, 1111, 1112, 1732, 1733, 1734]) (by decide +kernel)
theorem sub_u0 : ∀ w ∈ u_ws RX0 TX0 4, w ∈ lw_tbl := sub_of (is := [208, 210, 212, 214]) (by decide +kernel)
theorem sub_u1 : ∀ w ∈ u_ws RX1 TX1 19, w ∈ lw_tbl := sub_of (is := [290, 292, 294, 296, 298, 300, 302, 304, 306, 308, 310, 312, 314, 316, 318, 320, 322, 324, 326]) (by decide +kernel)
theorem sub_u2 : ∀ w ∈ u_ws RX3 TX3 4, w ∈ lw_tbl := sub_of (is := [342, 344, 346, 348]) (by decide +kernel)
theorem sub_u3 : ∀ w ∈ u_ws RX4 TX4 2, w ∈ lw_tbl := sub_of (is := [418, 420]) (by decide +kernel)
theorem sub_u4 : ∀ w ∈ u_ws RX5 TX5 3, w ∈ lw_tbl := sub_of (is := [392, 394, 396]) (by decide +kernel)
theorem sub_u5 : ∀ w ∈ u_ws RX6 TX6 10, w ∈ lw_tbl := sub_of (is := [473, 475, 477, 479, 481, 483, 485, 487, 489, 491]) (by decide +kernel)
theorem sub_u6 : ∀ w ∈ u_ws RX8 TX8 2, w ∈ lw_tbl := sub_of (is := [187, 189]) (by decide +kernel)
theorem sub_u7 : ∀ w ∈ u_ws RX9 TX9 8, w ∈ lw_tbl := sub_of (is := [434, 436, 438, 440, 442, 444, 446, 448]) (by decide +kernel)
theorem sub_u8 : ∀ w ∈ u_ws RX10 TX10 6, w ∈ lw_tbl := sub_of (is := [366, 368, 370, 372, 374, 376]) (by decide +kernel)
theorem sub_u9 : ∀ w ∈ u_ws RX11 TX11 9, w ∈ lw_tbl := sub_of (is := [504, 506, 508, 510, 512, 514, 516, 518, 520]) (by decide +kernel)
theorem sub_u10 : ∀ w ∈ u_ws RX12 TX12 39, w ∈ lw_tbl := sub_of (is := [1159, 1161, 1163, 1165, 1167, 1169, 1171, 1173, 1175, 1177, 1179, 1181, 1183, 1185, 1187, 1189, 1191, 1193, 1195, 1197, 1199, 1201, 1203, 1205, 1207, 1209, 1211, 1213, 1215, 1217, 1219, 1221, 1223, 1225, 1227, 1229, 1231, 1233, 1235]) (by decide +kernel)
theorem tb_sub : ∀ w ∈ TB, w ∈ lw_tbl := by
  intro w hw
  rcases List.mem_append.mp hw with h | h
  · obtain ⟨c, hc, hw⟩ := List.mem_flatten.mp h
    unfold tbs at hc
    rcases List.mem_cons.mp hc with hc | hc
    · rw [hc] at hw; exact sub_s0 w hw
    rcases List.mem_cons.mp hc with hc | hc
    · rw [hc] at hw; exact sub_s1 w hw
    rcases List.mem_cons.mp hc with hc | hc
    · rw [hc] at hw; exact sub_s2 w hw
    rcases List.mem_cons.mp hc with hc | hc
    · rw [hc] at hw; exact sub_s3 w hw
    rcases List.mem_cons.mp hc with hc | hc
    · rw [hc] at hw; exact sub_s4 w hw
    rcases List.mem_cons.mp hc with hc | hc
    · rw [hc] at hw; exact sub_s5 w hw
    rcases List.mem_cons.mp hc with hc | hc
    · rw [hc] at hw; exact sub_s6 w hw
    rcases List.mem_cons.mp hc with hc | hc
    · rw [hc] at hw; exact sub_s7 w hw
    rcases List.mem_cons.mp hc with hc | hc
    · rw [hc] at hw; exact sub_s8 w hw
    rcases List.mem_cons.mp hc with hc | hc
    · rw [hc] at hw; exact sub_s9 w hw
    rcases List.mem_cons.mp hc with hc | hc
    · rw [hc] at hw; exact sub_s10 w hw
    rcases List.mem_cons.mp hc with hc | hc
    · rw [hc] at hw; exact sub_s11 w hw
    rcases List.mem_cons.mp hc with hc | hc
    · rw [hc] at hw; exact sub_s12 w hw
    rcases List.mem_cons.mp hc with hc | hc
    · rw [hc] at hw; exact sub_s13 w hw
    rcases List.mem_cons.mp hc with hc | hc
    · rw [hc] at hw; exact sub_s14 w hw
    rcases List.mem_cons.mp hc with hc | hc
    · rw [hc] at hw; exact sub_s15 w hw
    rcases List.mem_cons.mp hc with hc | hc
    · rw [hc] at hw; exact sub_s16 w hw
    rcases List.mem_cons.mp hc with hc | hc
    · rw [hc] at hw; exact sub_s17 w hw
    rcases List.mem_cons.mp hc with hc | hc
    · rw [hc] at hw; exact sub_s18 w hw
    rcases List.mem_cons.mp hc with hc | hc
    · rw [hc] at hw; exact sub_s19 w hw
    rcases List.mem_cons.mp hc with hc | hc
    · rw [hc] at hw; exact sub_s20 w hw
    rcases List.mem_cons.mp hc with hc | hc
    · rw [hc] at hw; exact sub_s21 w hw
    rcases List.mem_cons.mp hc with hc | hc
    · rw [hc] at hw; exact sub_s22 w hw
    rcases List.mem_cons.mp hc with hc | hc
    · rw [hc] at hw; exact sub_s23 w hw
    rcases List.mem_cons.mp hc with hc | hc
    · rw [hc] at hw; exact sub_s24 w hw
    rcases List.mem_cons.mp hc with hc | hc
    · rw [hc] at hw; exact sub_s25 w hw
    rcases List.mem_cons.mp hc with hc | hc
    · rw [hc] at hw; exact sub_s26 w hw
    rcases List.mem_cons.mp hc with hc | hc
    · rw [hc] at hw; exact sub_s27 w hw
    rcases List.mem_cons.mp hc with hc | hc
    · rw [hc] at hw; exact sub_s28 w hw
    rcases List.mem_cons.mp hc with hc | hc
    · rw [hc] at hw; exact sub_s29 w hw
    rcases List.mem_cons.mp hc with hc | hc
    · rw [hc] at hw; exact sub_s30 w hw
    rcases List.mem_cons.mp hc with hc | hc
    · rw [hc] at hw; exact sub_s31 w hw
    rcases List.mem_cons.mp hc with hc | hc
    · rw [hc] at hw; exact sub_s32 w hw
    rcases List.mem_cons.mp hc with hc | hc
    · rw [hc] at hw; exact sub_s33 w hw
    rcases List.mem_cons.mp hc with hc | hc
    · rw [hc] at hw; exact sub_s34 w hw
    rcases List.mem_cons.mp hc with hc | hc
    · rw [hc] at hw; exact sub_s35 w hw
    rcases List.mem_cons.mp hc with hc | hc
    · rw [hc] at hw; exact sub_s36 w hw
    rcases List.mem_cons.mp hc with hc | hc
    · rw [hc] at hw; exact sub_s37 w hw
    · cases hc
  · obtain ⟨c, hc, hw⟩ := List.mem_flatten.mp h
    unfold tbu at hc
    rcases List.mem_cons.mp hc with hc | hc
    · rw [hc] at hw; exact sub_u0 w hw
    rcases List.mem_cons.mp hc with hc | hc
    · rw [hc] at hw; exact sub_u1 w hw
    rcases List.mem_cons.mp hc with hc | hc
    · rw [hc] at hw; exact sub_u2 w hw
    rcases List.mem_cons.mp hc with hc | hc
    · rw [hc] at hw; exact sub_u3 w hw
    rcases List.mem_cons.mp hc with hc | hc
    · rw [hc] at hw; exact sub_u4 w hw
    rcases List.mem_cons.mp hc with hc | hc
    · rw [hc] at hw; exact sub_u5 w hw
    rcases List.mem_cons.mp hc with hc | hc
    · rw [hc] at hw; exact sub_u6 w hw
    rcases List.mem_cons.mp hc with hc | hc
    · rw [hc] at hw; exact sub_u7 w hw
    rcases List.mem_cons.mp hc with hc | hc
    · rw [hc] at hw; exact sub_u8 w hw
    rcases List.mem_cons.mp hc with hc | hc
    · rw [hc] at hw; exact sub_u9 w hw
    rcases List.mem_cons.mp hc with hc | hc
    · rw [hc] at hw; exact sub_u10 w hw
    · cases hc
