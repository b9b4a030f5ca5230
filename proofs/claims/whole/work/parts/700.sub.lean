/-! the words of TB lie in the tables -/
theorem sub_of {is : List Nat} {c : List Cond} (h : is.map (fun i => lw_tbl[i]?) = c.map some) : ∀ w ∈ c, w ∈ lw_tbl := by
  intro w hw
  have h1 : some w ∈ c.map some := List.mem_map.mpr ⟨w, hw, rfl⟩
  rw [← h] at h1
  obtain ⟨i, _, hi⟩ := List.mem_map.mp h1
  exact List.mem_of_getElem? hi
theorem sub_s0 : ∀ w ∈ tb0, w ∈ lw_tbl := sub_of (is := [196, 197, 173, 174, 191, 198, 200, 202, 205, 544, 545, 547, 546, 159, 643, 623, 561, 575, 576, 1732, 571, 1731, 572, 573, 574, 161, 585, 596, 591, 592, 594, 595]) (by decide +kernel)
theorem sub_s1 : ∀ w ∈ tb1, w ∈ lw_tbl := sub_of (is := [163, 588, 589, 590, 605, 602, 603, 604, 164, 606, 609, 610, 612, 614, 599, 600, 601, 607, 608, 582, 583, 584, 586, 587, 162, 597, 598, 581, 567, 560, 3, 150]) (by decide +kernel)
theorem sub_s2 : ∀ w ∈ tb2, w ∈ lw_tbl := sub_of (is := [568, 569, 570, 578, 579, 580, 679, 619, 616, 618, 5, 566, 634, 536, 630, 631, 633, 8, 635, 622, 6, 535, 148, 676, 678, 16, 674, 228, 229, 230, 234, 238]) (by decide +kernel)
theorem sub_s3 : ∀ w ∈ tb3, w ∈ lw_tbl := sub_of (is := [242, 246, 328, 250, 254, 258, 259, 263, 266, 269, 270, 272, 275, 278, 281, 283, 286, 554, 692, 693, 694, 165, 695, 696, 690, 691, 152, 689, 647, 670, 654, 662]) (by decide +kernel)
theorem sub_s4 : ∀ w ∈ tb4, w ∈ lw_tbl := sub_of (is := [663, 653, 11, 659, 661, 13, 913, 768, 851, 852, 767, 23, 658, 784, 780, 781, 783, 26, 944, 822, 470, 826, 456, 455, 471, 818, 464, 460, 462, 458, 819, 821]) (by decide +kernel)
theorem sub_s5 : ∀ w ∈ tb5, w ∈ lw_tbl := sub_of (is := [33, 157, 823, 825, 34, 817, 32, 814, 811, 813, 31, 810, 830, 831, 779, 25, 839, 835, 836, 838, 37, 807, 809, 30, 827, 829, 35, 832, 834, 36, 806, 1015]) (by decide +kernel)
theorem sub_s6 : ∀ w ∈ tb6, w ∈ lw_tbl := sub_of (is := [1016, 943, 50, 626, 629, 7, 642, 9, 646, 10, 639, 657, 12, 650, 669, 14, 666, 565, 4, 624, 625, 160, 637, 638, 648, 649, 664, 665, 557, 553, 2, 555]) (by decide +kernel)
theorem sub_s7 : ∀ w ∈ tb7, w ∈ lw_tbl := sub_of (is := [556, 673, 15, 550, 333, 334, 335, 336, 337, 338, 1024, 1103, 1104, 1042, 1040, 1041, 153, 805, 29, 1039, 411, 412, 413, 415, 907, 908, 918, 919, 927, 923, 924, 926]) (by decide +kernel)
theorem sub_s8 : ∀ w ∈ tb8, w ∈ lw_tbl := sub_of (is := [47, 156, 383, 384, 387, 388, 389, 225, 227, 382, 798, 688, 18, 796, 875, 700, 453, 454, 466, 468, 493, 711, 733, 728, 723, 726, 727, 166, 732, 21, 721, 719]) (by decide +kernel)
theorem sub_s9 : ∀ w ∈ tb9, w ∈ lw_tbl := sub_of (is := [720, 718, 748, 741, 742, 738, 739, 716, 717, 746, 747, 740, 743, 710, 20, 707, 179, 180, 181, 183, 529, 404, 405, 423, 407, 408, 425, 426, 427, 429, 430, 431]) (by decide +kernel)
theorem sub_s10 : ∀ w ∈ tb10, w ∈ lw_tbl := sub_of (is := [432, 410, 403, 883, 956, 931, 906, 43, 909, 882, 41, 155, 912, 44, 917, 45, 922, 46, 903, 940, 953, 955, 52, 952, 979, 967, 971, 965, 966, 968, 970, 54]) (by decide +kernel)
theorem sub_s11 : ∀ w ∈ tb11, w ∈ lw_tbl := sub_of (is := [964, 987, 997, 1006, 850, 39, 1005, 1035, 1033, 1034, 1038, 62, 1032, 1056, 1057, 1058, 1059, 1053, 1055, 64, 1051, 1067, 1080, 1081, 1082, 1083, 1084, 1079, 223, 350, 352, 354]) (by decide +kernel)
theorem sub_s12 : ∀ w ∈ tb12, w ∈ lw_tbl := sub_of (is := [224, 357, 359, 329, 330, 362, 332, 222, 685, 1102, 68, 1099, 172, 175, 176, 149, 494, 192, 193, 495, 216, 496, 497, 218, 219, 151, 498, 378, 379, 154, 499, 500]) (by decide +kernel)
theorem sub_s13 : ∀ w ∈ tb13, w ∈ lw_tbl := sub_of (is := [422, 501, 399, 400, 502, 450, 178, 195, 221, 381, 402, 452, 171, 525, 528, 0, 533, 534, 543, 1, 549, 684, 17, 699, 19, 540, 706, 704, 756, 764, 760, 761]) (by decide +kernel)
theorem sub_s14 : ∀ w ∈ tb14, w ∈ lw_tbl := sub_of (is := [763, 22, 776, 772, 773, 775, 24, 788, 802, 795, 27, 799, 801, 28, 792, 847, 844, 846, 38, 843, 856, 860, 867, 866, 874, 40, 871, 879, 888, 892, 899, 897]) (by decide +kernel)
theorem sub_s15 : ∀ w ∈ tb15, w ∈ lw_tbl := sub_of (is := [898, 902, 42, 930, 48, 896, 939, 49, 936, 951, 51, 948, 963, 53, 960, 978, 55, 975, 986, 56, 983, 996, 57, 993, 1004, 58, 1001, 1011, 1014, 59, 1020, 1023]) (by decide +kernel)
theorem sub_s16 : ∀ w ∈ tb16, w ∈ lw_tbl := sub_of (is := [60, 1031, 61, 1028, 1050, 63, 1047, 1066, 65, 1063, 1071, 1078, 66, 1075, 1090, 1098, 67, 1095, 1108, 1114, 1115, 1118, 1119, 1120, 1121, 1122, 1130, 1132, 1134, 1135, 1136, 1138]) (by decide +kernel)
theorem sub_s17 : ∀ w ∈ tb17, w ∈ lw_tbl := sub_of (is := [1140, 1142, 1143, 1144, 1145, 1146, 1147, 1148, 1150, 1151, 1152, 1153, 1113, 1308, 1444, 1240, 1116, 1236, 1237, 1239, 69, 158, 1244, 1281, 1124, 1260, 1123, 1305, 1273, 1269, 1257, 1259]) (by decide +kernel)
theorem sub_s18 : ∀ w ∈ tb18, w ∈ lw_tbl := sub_of (is := [72, 1270, 1272, 75, 1293, 1363, 1266, 1268, 74, 1290, 1292, 79, 1301, 1125, 1302, 1304, 82, 1278, 1280, 76, 1306, 1307, 1276, 1274, 1350, 1351, 1352, 1353, 1354, 1355, 1356, 1275]) (by decide +kernel)
theorem sub_s19 : ∀ w ∈ tb19, w ∈ lw_tbl := sub_of (is := [1357, 1358, 1349, 1345, 1126, 1341, 1127, 1376, 1128, 1131, 1391, 1388, 1389, 1390, 1342, 1344, 91, 1337, 1298, 1300, 81, 1338, 1340, 90, 1346, 1348, 92, 1336, 1333, 1335, 89, 1332]) (by decide +kernel)
theorem sub_s20 : ∀ w ∈ tb20, w ∈ lw_tbl := sub_of (is := [1329, 1331, 88, 1328, 1325, 1327, 87, 1380, 1372, 1373, 1375, 96, 1377, 1379, 97, 1371, 1395, 1385, 1387, 99, 1392, 1394, 100, 1384, 1396, 1397, 1368, 1370, 95, 1381, 1383, 98]) (by decide +kernel)
theorem sub_s21 : ∀ w ∈ tb21, w ∈ lw_tbl := sub_of (is := [1367, 1359, 1360, 1362, 93, 1364, 1366, 94, 1324, 1297, 1294, 1296, 80, 1289, 1312, 1316, 1320, 1265, 1286, 1288, 78, 1309, 1311, 83, 1313, 1315, 84, 1317, 1319, 85, 1285, 1264]) (by decide +kernel)
theorem sub_s22 : ∀ w ∈ tb22, w ∈ lw_tbl := sub_of (is := [1277, 1129, 1261, 1263, 73, 1282, 1284, 77, 1321, 1323, 86, 1256, 1253, 1255, 71, 1252, 1117, 1249, 1251, 70, 1248, 1405, 1141, 1402, 1404, 101, 1401, 1413, 1510, 1133, 1514, 1517]) (by decide +kernel)
theorem sub_s23 : ∀ w ∈ tb23, w ∈ lw_tbl := sub_of (is := [1506, 1507, 1509, 120, 1511, 1513, 121, 1515, 1516, 1481, 1421, 1456, 1448, 1465, 1529, 1572, 1425, 1433, 1422, 1424, 104, 1429, 1430, 1432, 106, 1441, 1442, 1443, 1437, 1426, 1428, 105]) (by decide +kernel)
theorem sub_s24 : ∀ w ∈ tb24, w ∈ lw_tbl := sub_of (is := [1438, 1440, 108, 1461, 1445, 1447, 109, 1462, 1464, 112, 1669, 1409, 1410, 1412, 102, 1418, 1420, 103, 1434, 1436, 107, 1417, 1452, 1457, 1453, 1455, 110, 1458, 1460, 111, 1469, 1502]) (by decide +kernel)
theorem sub_s25 : ∀ w ∈ tb25, w ∈ lw_tbl := sub_of (is := [1503, 1505, 119, 1498, 1499, 1501, 118, 1497, 1139, 1494, 1496, 117, 1493, 1521, 1525, 1526, 1528, 124, 1490, 1492, 116, 1518, 1520, 122, 1522, 1524, 123, 1489, 1486, 1488, 115, 1568]) (by decide +kernel)
theorem sub_s26 : ∀ w ∈ tb26, w ∈ lw_tbl := sub_of (is := [1485, 1473, 1478, 1480, 113, 1482, 1484, 114, 1477, 1537, 1541, 1533, 1534, 1536, 125, 1538, 1540, 126, 1545, 1546, 1550, 1554, 1555, 1564, 1576, 1560, 1561, 1563, 127, 1565, 1567, 128]) (by decide +kernel)
theorem sub_s27 : ∀ w ∈ tb27, w ∈ lw_tbl := sub_of (is := [1569, 1571, 129, 1573, 1575, 130, 1559, 1580, 1588, 1585, 1587, 131, 1584, 1598, 1614, 1610, 1611, 1613, 136, 1602, 1606, 1593, 1594, 1595, 1597, 132, 1599, 1601, 133, 1603, 1605, 134]) (by decide +kernel)
theorem sub_s28 : ∀ w ∈ tb28, w ∈ lw_tbl := sub_of (is := [1607, 1609, 135, 1592, 1622, 1619, 1621, 137, 1618, 1631, 1627, 1628, 1630, 138, 1626, 1635, 1644, 1640, 1641, 1643, 139, 1639, 1648, 1652, 1660, 1657, 1659, 140, 1656, 1664, 1665, 1666]) (by decide +kernel)
theorem sub_s29 : ∀ w ∈ tb29, w ∈ lw_tbl := sub_of (is := [1668, 141, 1673, 1689, 1686, 1688, 144, 1685, 1682, 1684, 143, 1681, 1678, 1680, 142, 1677, 1697, 1694, 1696, 145, 1693, 1701, 1705, 1137, 1714, 1149, 1715, 1716, 1717, 1718, 1710, 1711]) (by decide +kernel)
theorem sub_s30 : ∀ w ∈ tb30, w ∈ lw_tbl := sub_of (is := [1713, 146, 1709, 1722, 1726, 1730, 1059, 695, 167, 168, 1109, 1110, 169, 170, 1111, 1112, 522, 523, 524, 1233, 1234, 1235, 530, 531, 532, 1241, 1242, 1243, 537, 538, 539, 1398]) (by decide +kernel)
theorem sub_s31 : ∀ w ∈ tb31, w ∈ lw_tbl := sub_of (is := [1399, 1400, 701, 702, 703, 1245, 1246, 1247, 753, 754, 755, 1406, 1407, 1408, 757, 758, 759, 1414, 1415, 1416, 769, 770, 771, 1449, 1450, 1451, 785, 786, 787, 1466, 1467, 1468]) (by decide +kernel)
theorem sub_s32 : ∀ w ∈ tb32, w ∈ lw_tbl := sub_of (is := [789, 790, 791, 1474, 1475, 1476, 840, 841, 842, 1530, 1531, 1532, 853, 854, 855, 1542, 1543, 1544, 857, 858, 859, 1547, 1548, 1549, 863, 864, 865, 1551, 1552, 1553, 868, 869]) (by decide +kernel)
theorem sub_s33 : ∀ w ∈ tb33, w ∈ lw_tbl := sub_of (is := [870, 1470, 1471, 1472, 876, 877, 878, 1556, 1557, 1558, 885, 886, 887, 1577, 1578, 1579, 889, 890, 891, 1581, 1582, 1583, 893, 894, 895, 1589, 1590, 1591, 933, 934, 935, 1615]) (by decide +kernel)
theorem sub_s34 : ∀ w ∈ tb34, w ∈ lw_tbl := sub_of (is := [1616, 1617, 945, 946, 947, 1623, 1624, 1625, 957, 958, 959, 1636, 1637, 1638, 972, 973, 974, 1632, 1633, 1634, 980, 981, 982, 1645, 1646, 1647, 990, 991, 992, 1649, 1650, 1651]) (by decide +kernel)
theorem sub_s35 : ∀ w ∈ tb35, w ∈ lw_tbl := sub_of (is := [998, 999, 1000, 1653, 1654, 1655, 1008, 1009, 1010, 1661, 1662, 1663, 1017, 1018, 1019, 1670, 1671, 1672, 1025, 1026, 1027, 1674, 1675, 1676, 1044, 1045, 1046, 1690, 1691, 1692, 1060, 1061]) (by decide +kernel)
theorem sub_s36 : ∀ w ∈ tb36, w ∈ lw_tbl := sub_of (is := [1062, 1698, 1699, 1700, 1068, 1069, 1070, 1702, 1703, 1704, 1072, 1073, 1074, 1706, 1707, 1708, 1087, 1088, 1089, 1719, 1720, 1721, 1092, 1093, 1094, 1723, 1724, 1725, 1105, 1106, 1107, 1727]) (by decide +kernel)
theorem sub_s37 : ∀ w ∈ tb37, w ∈ lw_tbl := sub_of (is := [1728, 1729]) (by decide +kernel)
theorem sub_u0 : ∀ w ∈ u_ws RX0 TX0 4, w ∈ lw_tbl := sub_of (is := [207, 209, 211, 213]) (by decide +kernel)
theorem sub_u1 : ∀ w ∈ u_ws RX1 TX1 19, w ∈ lw_tbl := sub_of (is := [289, 291, 293, 295, 297, 299, 301, 303, 305, 307, 309, 311, 313, 315, 317, 319, 321, 323, 325]) (by decide +kernel)
theorem sub_u2 : ∀ w ∈ u_ws RX3 TX3 4, w ∈ lw_tbl := sub_of (is := [341, 343, 345, 347]) (by decide +kernel)
theorem sub_u3 : ∀ w ∈ u_ws RX4 TX4 2, w ∈ lw_tbl := sub_of (is := [417, 419]) (by decide +kernel)
theorem sub_u4 : ∀ w ∈ u_ws RX5 TX5 3, w ∈ lw_tbl := sub_of (is := [391, 393, 395]) (by decide +kernel)
theorem sub_u5 : ∀ w ∈ u_ws RX6 TX6 10, w ∈ lw_tbl := sub_of (is := [472, 474, 476, 478, 480, 482, 484, 486, 488, 490]) (by decide +kernel)
theorem sub_u6 : ∀ w ∈ u_ws RX8 TX8 2, w ∈ lw_tbl := sub_of (is := [186, 188]) (by decide +kernel)
theorem sub_u7 : ∀ w ∈ u_ws RX9 TX9 8, w ∈ lw_tbl := sub_of (is := [433, 435, 437, 439, 441, 443, 445, 447]) (by decide +kernel)
theorem sub_u8 : ∀ w ∈ u_ws RX10 TX10 6, w ∈ lw_tbl := sub_of (is := [365, 367, 369, 371, 373, 375]) (by decide +kernel)
theorem sub_u9 : ∀ w ∈ u_ws RX11 TX11 9, w ∈ lw_tbl := sub_of (is := [503, 505, 507, 509, 511, 513, 515, 517, 519]) (by decide +kernel)
theorem sub_u10 : ∀ w ∈ u_ws RX12 TX12 39, w ∈ lw_tbl := sub_of (is := [1154, 1156, 1158, 1160, 1162, 1164, 1166, 1168, 1170, 1172, 1174, 1176, 1178, 1180, 1182, 1184, 1186, 1188, 1190, 1192, 1194, 1196, 1198, 1200, 1202, 1204, 1206, 1208, 1210, 1212, 1214, 1216, 1218, 1220, 1222, 1224, 1226, 1228, 1230]) (by decide +kernel)
theorem tb_sub : ∀ w ∈ TB, w ∈ lw_tbl := by
  intro w hw
  rcases List.mem_append.mp hw with h | h
  · obtain ⟨c, hc, hw⟩ := List.mem_flatten.mp h
    unfold tbs at hc
    rcases List.mem_cons.mp hc with hc | hc
    · rw [hc] at hw; exact sub_s0 w hw
    rcases List.mem_cons.mp hc with hc | hc
    · rw [hc] at hw; exact sub_s1 w hw
    rcases List.mem_cons.mp hc with hc | hc
    · rw [hc] at hw; exact sub_s2 w hw
    rcases List.mem_cons.mp hc with hc | hc
    · rw [hc] at hw; exact sub_s3 w hw
    rcases List.mem_cons.mp hc with hc | hc
    · rw [hc] at hw; exact sub_s4 w hw
    rcases List.mem_cons.mp hc with hc | hc
    · rw [hc] at hw; exact sub_s5 w hw
    rcases List.mem_cons.mp hc with hc | hc
    · rw [hc] at hw; exact sub_s6 w hw
    rcases List.mem_cons.mp hc with hc | hc
    · rw [hc] at hw; exact sub_s7 w hw
    rcases List.mem_cons.mp hc with hc | hc
    · rw [hc] at hw; exact sub_s8 w hw
    rcases List.mem_cons.mp hc with hc | hc
    · rw [hc] at hw; exact sub_s9 w hw
    rcases List.mem_cons.mp hc with hc | hc
    · rw [hc] at hw; exact sub_s10 w hw
    rcases List.mem_cons.mp hc with hc | hc
    · rw [hc] at hw; exact sub_s11 w hw
    rcases List.mem_cons.mp hc with hc | hc
    · rw [hc] at hw; exact sub_s12 w hw
    rcases List.mem_cons.mp hc with hc | hc
    · rw [hc] at hw; exact sub_s13 w hw
    rcases List.mem_cons.mp hc with hc | hc
    · rw [hc] at hw; exact sub_s14 w hw
    rcases List.mem_cons.mp hc with hc | hc
    · rw [hc] at hw; exact sub_s15 w hw
    rcases List.mem_cons.mp hc with hc | hc
    · rw [hc] at hw; exact sub_s16 w hw
    rcases List.mem_cons.mp hc with hc | hc
    · rw [hc] at hw; exact sub_s17 w hw
    rcases List.mem_cons.mp hc with hc | hc
    · rw [hc] at hw; exact sub_s18 w hw
    rcases List.mem_cons.mp hc with hc | hc
    · rw [hc] at hw; exact sub_s19 w hw
    rcases List.mem_cons.mp hc with hc | hc
    · rw [hc] at hw; exact sub_s20 w hw
    rcases List.mem_cons.mp hc with hc | hc
    · rw [hc] at hw; exact sub_s21 w hw
    rcases List.mem_cons.mp hc with hc | hc
    · rw [hc] at hw; exact sub_s22 w hw
    rcases List.mem_cons.mp hc with hc | hc
    · rw [hc] at hw; exact sub_s23 w hw
    rcases List.mem_cons.mp hc with hc | hc
    · rw [hc] at hw; exact sub_s24 w hw
    rcases List.mem_cons.mp hc with hc | hc
    · rw [hc] at hw; exact sub_s25 w hw
    rcases List.mem_cons.mp hc with hc | hc
    · rw [hc] at hw; exact sub_s26 w hw
    rcases List.mem_cons.mp hc with hc | hc
    · rw [hc] at hw; exact sub_s27 w hw
    rcases List.mem_cons.mp hc with hc | hc
    · rw [hc] at hw; exact sub_s28 w hw
    rcases List.mem_cons.mp hc with hc | hc
    · rw [hc] at hw; exact sub_s29 w hw
    rcases List.mem_cons.mp hc with hc | hc
    · rw [hc] at hw; exact sub_s30 w hw
    rcases List.mem_cons.mp hc with hc | hc
    · rw [hc] at hw; exact sub_s31 w hw
    rcases List.mem_cons.mp hc with hc | hc
    · rw [hc] at hw; exact sub_s32 w hw
    rcases List.mem_cons.mp hc with hc | hc
    · rw [hc] at hw; exact sub_s33 w hw
    rcases List.mem_cons.mp hc with hc | hc
    · rw [hc] at hw; exact sub_s34 w hw
    rcases List.mem_cons.mp hc with hc | hc
    · rw [hc] at hw; exact sub_s35 w hw
    rcases List.mem_cons.mp hc with hc | hc
    · rw [hc] at hw; exact sub_s36 w hw
    rcases List.mem_cons.mp hc with hc | hc
    · rw [hc] at hw; exact sub_s37 w hw
    · cases hc
  · obtain ⟨c, hc, hw⟩ := List.mem_flatten.mp h
    unfold tbu at hc
    rcases List.mem_cons.mp hc with hc | hc
    · rw [hc] at hw; exact sub_u0 w hw
    rcases List.mem_cons.mp hc with hc | hc
    · rw [hc] at hw; exact sub_u1 w hw
    rcases List.mem_cons.mp hc with hc | hc
    · rw [hc] at hw; exact sub_u2 w hw
    rcases List.mem_cons.mp hc with hc | hc
    · rw [hc] at hw; exact sub_u3 w hw
    rcases List.mem_cons.mp hc with hc | hc
    · rw [hc] at hw; exact sub_u4 w hw
    rcases List.mem_cons.mp hc with hc | hc
    · rw [hc] at hw; exact sub_u5 w hw
    rcases List.mem_cons.mp hc with hc | hc
    · rw [hc] at hw; exact sub_u6 w hw
    rcases List.mem_cons.mp hc with hc | hc
    · rw [hc] at hw; exact sub_u7 w hw
    rcases List.mem_cons.mp hc with hc | hc
    · rw [hc] at hw; exact sub_u8 w hw
    rcases List.mem_cons.mp hc with hc | hc
    · rw [hc] at hw; exact sub_u9 w hw
    rcases List.mem_cons.mp hc with hc | hc
    · rw [hc] at hw; exact sub_u10 w hw
    · cases hc
