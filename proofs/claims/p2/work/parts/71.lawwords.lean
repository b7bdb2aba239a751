/-! the law's words; a private method that the receiver's superclass declares is selected as itself -/
def wsL_law : List Cond := wsL_law0 ++ (vx_atS RX8 446 "java/lang/IndexOutOfBoundsException" ["java/lang/RuntimeException", "java/lang/Exception"]).filter goodWord ++ (vx_atS RX8 69 "java/lang/IllegalArgumentException" ["java/lang/RuntimeException", "java/lang/Exception"]).filter goodWord ++ (vx_atS RX8 79 "java/lang/IllegalStateException" ["java/lang/RuntimeException", "java/lang/Exception"]).filter goodWord
theorem m_selP {C : String} {y x0 y0 : MethodName} {s : State} {args : Array Value} (hy : y.cls ≠ "java/lang/invoke/MethodHandle" ∧ y.cls ≠ "java/lang/invoke/VarHandle") (h0 : (Cond.selects C x0 y0).before args s = true) (hcl : y0.cls = y.cls) (hpriv : (Cond.privateMethod y).before args s = true) (hinst : (Cond.instanceMethod y).before args s = true) : (Cond.selects C y y).before args s = true := by
  obtain ⟨c, r, m, hc, -, hm, -, mk, hmk, hni⟩ := Cond.selects_spec (first := s) h0
  obtain ⟨mj, methM, hnamed, hmethM, -, -⟩ := Cond.instanceMethod_spec hinst
  have hfound : s.methodFound? y.cls y.name y.desc = some mj := State.methodFound?_of_named hnamed hy
  have hcls : mj.cls = m.cls := Option.some.inj ((findClass_of_methodNamed hnamed).symm.trans ((congrArg s.vm.findClass hcl.symm).trans (findClass_of_methodNamed hm)))
  have hsel : selectMethod {} s.vm c mj = .method mj := selectMethod_private hmethM (Cond.privateMethod_at hpriv mj methM hnamed hmethM)
  simp only [Cond.before, Cond.holds, Cond.value, hc, hfound, hnamed, hsel, hcls, hmk]
  simp [hni]
def m_six : List MethodName := [yJ5_ensureCapacityInternal_d00df, yJ5_newCapacity_0f7a4, yJ5_inflate_da8c8, yJ5_appendNull_278bc, yJ5_putStringAt_47b60, yJ5_inflateIfNeededFor_a7421]
def m_lw : List Cond := m_six.map (fun y => Cond.selects RJ4 y y) ++ lw_tbl
theorem m_tin {w : Cond} (i : Nat) (h : tables_1[i]? = some w) : w ∈ lw_tbl := List.mem_append_right _ (List.mem_of_getElem? h)
theorem m_lw_ok {s : State} {args : Array Value} (h : ∀ w ∈ lw_tbl, w.before args s = true) : ∀ w ∈ m_lw, w.before args s = true := by
  intro w hw
  rcases List.mem_append.mp hw with hw | hw
  · obtain ⟨y, hy, rfl⟩ := List.mem_map.mp hw
    have h0 := h _ (m_tin (w := Cond.selects RJ4 yJ5_isLatin1_aae02 yJ5_isLatin1_aae02) 951 (by decide +kernel))
    rcases List.mem_cons.mp hy with rfl | hy
    · exact m_selP (by decide +kernel) h0 rfl (h _ (m_tin 929 (by decide +kernel))) (h _ (m_tin 930 (by decide +kernel)))
    rcases List.mem_cons.mp hy with rfl | hy
    · exact m_selP (by decide +kernel) h0 rfl (h _ (m_tin 933 (by decide +kernel))) (h _ (m_tin 934 (by decide +kernel)))
    rcases List.mem_cons.mp hy with rfl | hy
    · exact m_selP (by decide +kernel) h0 rfl (h _ (m_tin 998 (by decide +kernel))) (h _ (m_tin 999 (by decide +kernel)))
    rcases List.mem_cons.mp hy with rfl | hy
    · exact m_selP (by decide +kernel) h0 rfl (h _ (m_tin 925 (by decide +kernel))) (h _ (m_tin 926 (by decide +kernel)))
    rcases List.mem_cons.mp hy with rfl | hy
    · exact m_selP (by decide +kernel) h0 rfl (h _ (m_tin 989 (by decide +kernel))) (h _ (m_tin 990 (by decide +kernel)))
    rcases List.mem_cons.mp hy with rfl | hy
    · exact m_selP (by decide +kernel) h0 rfl (h _ (m_tin 993 (by decide +kernel))) (h _ (m_tin 994 (by decide +kernel)))
    cases hy
  · exact h w hw
theorem m_dt (L : List Cond) (n k : Nat) (n2 : Nat) (e : n + k = n2) (P : Cond → Prop) (h1 : ∀ w ∈ (L.drop n).take k, P w) (h2 : ∀ w ∈ L.drop n2, P w) : ∀ w ∈ L.drop n, P w := by
  intro w hw
  subst e
  rw [← List.take_append_drop k (L.drop n)] at hw
  rcases List.mem_append.mp hw with h | h
  · exact h1 w h
  · rw [List.drop_drop] at h
    exact h2 w (by first | exact h | (rw [Nat.add_comm]; exact h))
theorem m_pl {L ws : List Cond} {ps : List Nat} (h : ws = ps.filterMap (fun i => L[i]?)) : ∀ w ∈ ws, w ∈ L := by
  intro w hw
  rw [h] at hw
  obtain ⟨i, -, hi⟩ := List.mem_filterMap.mp hw
  exact List.mem_of_getElem? hi
set_option maxRecDepth 100000 in
theorem m_lw_c0 : ∀ w ∈ (wsL_law.drop 0).take 40, w ∈ m_lw := m_pl (ps := [120, 121, 80, 1382, 1383, 86, 601, 602, 88, 122, 123, 124, 125, 126, 127, 128, 207, 130, 131, 83, 208, 209, 210, 211, 159, 160, 84, 212, 173, 206, 213, 214, 175, 85, 132, 133, 134, 142, 144, 135]) (by decide +kernel)
set_option maxRecDepth 100000 in
theorem m_lw_c40 : ∀ w ∈ (wsL_law.drop 40).take 40, w ∈ m_lw := m_pl (ps := [136, 82, 137, 148, 138, 139, 81, 140, 141, 162, 163, 164, 167, 176, 177, 178, 179, 182, 184, 186, 180, 1384, 1385, 1386, 1387, 1423, 1388, 1426, 1390, 1427, 1428, 1429, 1430, 1419, 1431, 1392, 87, 1391, 1394, 1395]) (by decide +kernel)
set_option maxRecDepth 100000 in
theorem m_lw_c80 : ∀ w ∈ (wsL_law.drop 80).take 40, w ∈ m_lw := m_pl (ps := [1396, 1397, 1399, 1401, 604, 605, 606, 614, 615, 79, 616, 617, 619, 620, 621, 622, 183, 185, 399, 401, 15, 402, 403, 92, 567, 568, 569, 327, 93, 1464, 1465, 1466, 1467, 1420, 1468, 1470, 51, 1471, 1472, 1473]) (by decide +kernel)
set_option maxRecDepth 100000 in
theorem m_lw_c120 : ∀ w ∈ (wsL_law.drop 120).take 40, w ∈ m_lw := m_pl (ps := [1474, 1475, 1477, 52, 1478, 1460, 1461, 1462, 1463, 623, 624, 625, 627, 628, 629, 630, 632, 94, 187, 1479, 1480, 1481, 1482, 648, 649, 650, 651, 652, 653, 654, 272, 657, 95, 678, 249, 250, 251, 252, 147, 658]) (by decide +kernel)
set_option maxRecDepth 100000 in
theorem m_lw_c160 : ∀ w ∈ (wsL_law.drop 160).take 40, w ∈ m_lw := m_pl (ps := [659, 660, 661, 662, 685, 664, 665, 96, 687, 689, 691, 677, 679, 681, 683, 684, 663, 667, 668, 669, 716, 717, 718, 719, 151, 150, 720, 722, 36, 723, 724, 726, 37, 727, 728, 730, 38, 731, 780, 586]) (by decide +kernel)
set_option maxRecDepth 100000 in
theorem m_lw_c200 : ∀ w ∈ (wsL_law.drop 200).take 40, w ∈ m_lw := m_pl (ps := [98, 587, 781, 732, 733, 97, 734, 735, 736, 737, 738, 739, 740, 741, 99, 742, 743, 1949, 744, 769, 770, 771, 772, 773, 775, 776, 580, 581, 777, 779, 778, 100, 1483, 1484, 1485, 1486, 1488, 1489, 101, 1487]) (by decide +kernel)
set_option maxRecDepth 100000 in
theorem m_lw_c240 : ∀ w ∈ (wsL_law.drop 240).take 40, w ∈ m_lw := m_pl (ps := [1491, 1492, 1493, 1504, 1494, 1508, 1510, 1495, 1529, 782, 783, 784, 785, 786, 787, 788, 692, 436, 438, 19, 439, 272, 253, 254, 255, 256, 257, 258, 102, 259, 260, 261, 103, 262, 263, 264, 265, 266, 1530, 1531]) (by decide +kernel)
set_option maxRecDepth 100000 in
theorem m_lw_c280 : ∀ w ∈ (wsL_law.drop 280).take 40, w ∈ m_lw := m_pl (ps := [1532, 1533, 1488, 1534, 1536, 53, 1537, 1538, 789, 790, 791, 792, 793, 794, 795, 694, 1539, 1540, 1541, 1542, 796, 797, 798, 799, 800, 801, 802, 267, 804, 104, 810, 805, 806, 807, 808, 819, 809, 814, 811, 817]) (by decide +kernel)
set_option maxRecDepth 100000 in
theorem m_lw_c320 : ∀ w ∈ (wsL_law.drop 320).take 40, w ∈ m_lw := m_pl (ps := [1543, 1544, 1545, 1546, 1547, 1548, 105, 1550, 1551, 1552, 1557, 1560, 1563, 847, 848, 849, 850, 851, 852, 853, 820, 287, 855, 106, 861, 519, 521, 24, 522, 267, 856, 857, 858, 859, 860, 870, 862, 864, 866, 1584]) (by decide +kernel)
set_option maxRecDepth 100000 in
theorem m_lw_c360 : ∀ w ∈ (wsL_law.drop 360).take 40, w ∈ m_lw := m_pl (ps := [1585, 1586, 1587, 1547, 1592, 1593, 107, 1588, 1590, 54, 1591, 1595, 1596, 1597, 1604, 892, 893, 894, 895, 896, 897, 898, 871, 816, 545, 547, 28, 548, 287, 1619, 1620, 1621, 1622, 1592, 1623, 1625, 55, 1626, 901, 902]) (by decide +kernel)
set_option maxRecDepth 100000 in
theorem m_lw_c400 : ∀ w ∈ (wsL_law.drop 400).take 40, w ∈ m_lw := m_pl (ps := [903, 904, 905, 906, 907, 215, 908, 909, 108, 826, 910, 911, 912, 913, 914, 916, 918, 484, 485, 486, 1627, 1628, 1629, 1630, 1421, 1631, 1632, 1633, 927, 928, 929, 930, 931, 932, 933, 688, 490, 491, 492, 493]) (by decide +kernel)
set_option maxRecDepth 100000 in
theorem m_lw_c440 : ∀ w ∈ (wsL_law.drop 440).take 40, w ∈ m_lw := m_pl (ps := [670, 671, 934, 935, 936, 937, 1634, 1635, 1636, 1637, 938, 939, 940, 941, 942, 943, 944, 813, 686, 283, 285, 8, 286, 279, 280, 281, 282, 947, 948, 949, 950, 292, 812, 277, 278, 951, 952, 953, 954, 1196]) (by decide +kernel)
set_option maxRecDepth 100000 in
theorem m_lw_c480 : ∀ w ∈ (wsL_law.drop 480).take 40, w ∈ m_lw := m_pl (ps := [955, 957, 39, 958, 1197, 1198, 1199, 1200, 821, 823, 1638, 1639, 1640, 1641, 1650, 1642, 1644, 56, 1645, 1646, 1647, 1648, 1649, 1496, 1498, 1651, 1652, 1653, 115, 1654, 1671, 1655, 1656, 1657, 1658, 1660, 1662, 1663, 1664, 1665]) (by decide +kernel)
set_option maxRecDepth 100000 in
theorem m_lw_c520 : ∀ w ∈ (wsL_law.drop 520).take 40, w ∈ m_lw := m_pl (ps := [1666, 1667, 1668, 114, 1669, 1670, 1675, 1201, 1202, 1203, 1204, 1205, 1206, 1207, 822, 524, 525, 526, 1209, 1210, 1211, 1212, 1213, 1215, 41, 1216, 1217, 1218, 1219, 1220, 1676, 1677, 1678, 1679, 1680, 1681, 1682, 1683, 1686, 1684]) (by decide +kernel)
set_option maxRecDepth 100000 in
theorem m_lw_c560 : ∀ w ∈ (wsL_law.drop 560).take 40, w ∈ m_lw := m_pl (ps := [1685, 1687, 1688, 1690, 57, 1691, 1692, 1221, 1222, 1223, 1224, 1225, 1226, 1227, 216, 217, 441, 442, 443, 444, 449, 450, 451, 452, 480, 482, 21, 483, 915, 917, 919, 487, 488, 489, 445, 446, 447, 448, 693, 1229]) (by decide +kernel)
set_option maxRecDepth 100000 in
theorem m_lw_c600 : ∀ w ∈ (wsL_law.drop 600).take 40, w ∈ m_lw := m_pl (ps := [1231, 42, 1232, 494, 495, 496, 497, 1233, 1234, 1235, 1236, 165, 1237, 1239, 43, 1240, 863, 874, 190, 865, 869, 457, 458, 459, 460, 824, 461, 462, 463, 464, 1241, 1243, 44, 1244, 539, 1253, 1255, 1251, 827, 539]) (by decide +kernel)
set_option maxRecDepth 100000 in
theorem m_lw_c640 : ∀ w ∈ (wsL_law.drop 640).take 40, w ∈ m_lw := m_pl (ps := [1245, 117, 1246, 1247, 1248, 1249, 1250, 1252, 1254, 1263, 1264, 1265, 1266, 872, 868, 1267, 1269, 45, 1270, 825, 188, 189, 498, 500, 22, 501, 502, 503, 504, 505, 506, 507, 509, 23, 510, 511, 512, 513, 514, 1271]) (by decide +kernel)
set_option maxRecDepth 100000 in
theorem m_lw_c680 : ∀ w ∈ (wsL_law.drop 680).take 40, w ∈ m_lw := m_pl (ps := [1273, 46, 1274, 818, 1275, 1277, 47, 1278, 1693, 1694, 1695, 1696, 1422, 1425, 1697, 1698, 1699, 1700, 1500, 1502, 1701, 1702, 1704, 58, 1705, 1706, 1707, 1708, 1709, 1710, 1506, 1711, 1713, 59, 1714, 1424, 1715, 1716, 1717, 1718]) (by decide +kernel)
set_option maxRecDepth 100000 in
theorem m_lw_c720 : ∀ w ∈ (wsL_law.drop 720).take 40, w ∈ m_lw := m_pl (ps := [1719, 1721, 60, 1722, 1723, 1725, 61, 1726, 1727, 1728, 1729, 1730, 1600, 1731, 1733, 62, 1734, 1735, 1279, 1280, 1281, 1282, 1283, 1284, 1285, 873, 1736, 1737, 1738, 1739, 1287, 1288, 1289, 618, 1290, 1291, 1292, 1293, 1295, 1297]) (by decide +kernel)
set_option maxRecDepth 100000 in
theorem m_lw_c760 : ∀ w ∈ (wsL_law.drop 760).take 40, w ∈ m_lw := m_pl (ps := [48, 1298, 1299, 1301, 49, 1302, 1303, 1305, 50, 1306, 680, 682, 690, 1307, 1308, 1309, 1310, 1740, 1741, 1742, 1743, 1744, 1746, 63, 1747, 1748, 1749, 1750, 1751, 1752, 1753, 118, 1754, 1755, 1756, 1761, 1757, 1759, 149, 1760]) (by decide +kernel)
set_option maxRecDepth 100000 in
theorem m_lw_c800 : ∀ w ∈ (wsL_law.drop 800).take 40, w ∈ m_lw := m_pl (ps := [1772, 1776, 1778, 1780, 1758, 1782, 1785, 1787, 1789, 145, 1790, 1791, 1792, 1793, 1311, 1312, 1313, 1314, 396, 397, 398, 419, 421, 16, 422, 423, 425, 17, 426, 427, 429, 18, 430, 315, 316, 317, 318, 815, 1794, 1795]) (by decide +kernel)
set_option maxRecDepth 100000 in
theorem m_lw_c840 : ∀ w ∈ (wsL_law.drop 840).take 40, w ∈ m_lw := m_pl (ps := [1796, 1797, 1798, 1800, 64, 1801, 1802, 1804, 65, 1805, 1806, 1808, 66, 1809, 1315, 1316, 1317, 1318, 433, 434, 435, 181, 453, 455, 20, 456, 465, 466, 467, 468, 469, 470, 119, 471, 472, 473, 474, 1810, 1811, 1812]) (by decide +kernel)
set_option maxRecDepth 100000 in
theorem m_lw_c880 : ∀ w ∈ (wsL_law.drop 880).take 40, w ∈ m_lw := m_pl (ps := [1813, 1814, 1816, 67, 1817, 1818, 1820, 68, 1821, 1319, 1320, 1321, 1322, 516, 517, 518, 527, 529, 25, 530, 531, 533, 26, 534, 535, 537, 27, 538, 1822, 1823, 1824, 1825, 1826, 1828, 69, 1829, 1830, 1832, 70, 1833]) (by decide +kernel)
set_option maxRecDepth 100000 in
theorem m_lw_c920 : ∀ w ∈ (wsL_law.drop 920).take 40, w ∈ m_lw := m_pl (ps := [1323, 1324, 1325, 1326, 542, 543, 544, 867, 1834, 1835, 1836, 1837, 1838, 1840, 71, 1841, 1327, 1328, 1329, 1330, 1331, 1332, 1333, 1842, 1843, 1844, 1845, 1334, 1335, 1336, 1337, 1338, 1339, 1340, 1342, 965, 110, 1343, 967, 968]) (by decide +kernel)
set_option maxRecDepth 100000 in
theorem m_lw_c960 : ∀ w ∈ (wsL_law.drop 960).take 40, w ∈ m_lw := m_pl (ps := [969, 970, 109, 971, 972, 973, 394, 982, 983, 975, 976, 112, 977, 978, 979, 980, 981, 1344, 1345, 1346, 1347, 1348, 1923, 994, 1349, 1350, 985, 1007, 1917, 0, 1009, 1010, 1011, 1918, 1, 1013, 1014, 1016, 1015, 1017]) (by decide +kernel)
set_option maxRecDepth 100000 in
theorem m_lw_c1000 : ∀ w ∈ (wsL_law.drop 1000).take 40, w ∈ m_lw := m_pl (ps := [1018, 1019, 1020, 1021, 1022, 1023, 1024, 1026, 1027, 1029, 1030, 1028, 1031, 1351, 1352, 113, 1353, 1076, 1921, 2, 1078, 1079, 1080, 1081, 1082, 1083, 1084, 1085, 1086, 1087, 1088, 1038, 1039, 1040, 1089, 1090, 111, 1091, 1044, 1092]) (by decide +kernel)
set_option maxRecDepth 100000 in
theorem m_lw_c1040 : ∀ w ∈ (wsL_law.drop 1040).take 40, w ∈ m_lw := m_pl (ps := [1093, 1094, 1049, 1050, 1051, 1052, 1054, 1056, 1354, 1355, 1356, 1357, 1358, 1359, 1360, 1361, 1362, 1363, 1364, 1102, 1103, 1104, 1105, 1922, 1106, 1107, 1108, 1109, 1110, 1111, 1112, 1113, 1114, 1116, 1118, 1119, 1120, 1035, 1036, 1037]) (by decide +kernel)
set_option maxRecDepth 100000 in
theorem m_lw_c1080 : ∀ w ∈ (wsL_law.drop 1080).take 40, w ∈ m_lw := m_pl (ps := [1041, 1042, 1043, 1046, 1047, 1048, 1121, 1122, 1123, 1124, 1125, 1365, 1128, 1129, 1130, 1131, 1132, 1133, 1134, 1135, 1136, 1137, 1138, 1139, 1185, 1184, 1066, 984, 1140, 1142, 1143, 1141, 1144, 1145, 1147, 1146, 1148, 1149, 1150, 1151]) (by decide +kernel)
set_option maxRecDepth 100000 in
theorem m_lw_c1120 : ∀ w ∈ (wsL_law.drop 1120).take 40, w ∈ m_lw := m_pl (ps := [1146, 1152, 1153, 1154, 1155, 1156, 1157, 1158, 1159, 1160, 1161, 1162, 1164, 1171, 1172, 1173, 1174, 1175, 1176, 1177, 1178, 1179, 1180, 1181, 1182, 1183, 1846, 1847, 1848, 1849, 1851, 1852, 1854, 997, 998, 999, 1000, 1915, 1001, 1002]) (by decide +kernel)
set_option maxRecDepth 100000 in
theorem m_lw_c1160 : ∀ w ∈ (wsL_law.drop 1160).take 40, w ∈ m_lw := m_pl (ps := [1003, 1916, 3, 1005, 1006, 1032, 1033, 1034, 1058, 1059, 1060, 1061, 1062, 1063, 1064, 1065, 1067, 1919, 4, 1069, 1070, 1071, 1920, 5, 1073, 1074, 1075, 1095, 1096, 1097, 1098, 1099, 1100, 1855, 1858, 1366, 1367, 1368, 1369, 300]) (by decide +kernel)
set_option maxRecDepth 100000 in
theorem m_lw_c1200 : ∀ w ∈ (wsL_law.drop 1200).take 40, w ∈ m_lw := m_pl (ps := [301, 302, 166, 303, 305, 9, 306, 307, 309, 10, 310, 311, 313, 11, 314, 319, 321, 12, 322, 323, 325, 13, 326, 1859, 1860, 1861, 1862, 1863, 1865, 72, 1866, 1370, 1371, 1372, 1373, 552, 553, 554, 555, 557]) (by decide +kernel)
set_option maxRecDepth 100000 in
theorem m_lw_c1240 : ∀ w ∈ (wsL_law.drop 1240).take 40, w ∈ m_lw := m_pl (ps := [29, 558, 559, 561, 30, 562, 1867, 1868, 1869, 1870, 1871, 1873, 73, 1874, 1374, 1375, 1376, 1377, 564, 565, 566, 571, 573, 31, 574, 575, 577, 32, 578, 579, 585, 582, 583, 584, 588, 590, 33, 591, 592, 594]) (by decide +kernel)
set_option maxRecDepth 100000 in
theorem m_lw_c1280 : ∀ w ∈ (wsL_law.drop 1280).take 40, w ∈ m_lw := m_pl (ps := [34, 595, 596, 598, 35, 599, 1875, 1876, 1877, 1878, 1879, 1881, 74, 1882, 1883, 1885, 75, 1886, 1887, 1378, 1379, 1380, 1381, 477, 478, 479, 1888, 1889, 1890, 1891, 1892, 1894, 76, 1895, 241, 242, 243, 244, 245, 247]) (by decide +kernel)
set_option maxRecDepth 100000 in
theorem m_lw_c1320 : ∀ w ∈ (wsL_law.drop 1320).take 40, w ∈ m_lw := m_pl (ps := [6, 248, 268, 270, 7, 271, 273, 274, 275, 276, 288, 289, 290, 291, 1896, 1897, 1898, 1899, 1900, 1902, 77, 1903, 293, 294, 295, 296, 297, 298, 299, 395, 432, 476, 515, 541, 551, 563, 600, 1904, 1905, 1906]) (by decide +kernel)
set_option maxRecDepth 100000 in
theorem m_lw_c1360 : ∀ w ∈ (wsL_law.drop 1360).take 40, w ∈ m_lw := m_pl (ps := [1907, 1908, 1432, 1909, 1911, 78, 1912, 1913, 218, 220, 222, 224, 226, 228, 230, 232, 234, 236, 238, 1433, 1435, 1437, 1439, 1441, 1443, 1445, 1447, 1449, 1451, 1453, 1455, 1457, 609, 611, 156, 152, 154, 168, 170, 191]) (by decide +kernel)
set_option maxRecDepth 100000 in
theorem m_lw_c1400 : ∀ w ∈ (wsL_law.drop 1400).take 40, w ∈ m_lw := m_pl (ps := [193, 195, 197, 199, 201, 203, 1406, 1408, 1410, 1412, 1414, 1416, 695, 697, 699, 701, 703, 705, 707, 709, 711, 713, 672, 674, 1512, 1514, 1516, 1518, 1520, 1522, 1524, 1526, 828, 830, 832, 834, 836, 838, 840, 842]) (by decide +kernel)
set_option maxRecDepth 100000 in
theorem m_lw_c1440 : ∀ w ∈ (wsL_law.drop 1440).take 40, w ∈ m_lw := m_pl (ps := [844, 1565, 1567, 1569, 1571, 1573, 1575, 1577, 1579, 1581, 875, 877, 879, 881, 883, 885, 887, 889, 1606, 1608, 1610, 1612, 1614, 1616, 920, 922, 924, 1672, 1256, 1258, 1260, 1762, 1764, 1766, 1768, 986, 988, 990, 992, 1186]) (by decide +kernel)
set_option maxRecDepth 100000 in
theorem m_lw_c1480 : ∀ w ∈ (wsL_law.drop 1480).take 40, w ∈ m_lw := m_pl (ps := [1188, 1190, 1192, 89, 349, 358, 362, 365, 367, 350, 351, 126, 127, 352, 357, 363, 383, 339, 384, 341, 385, 343, 353, 355, 345, 379, 380, 382, 345, 414, 415, 416, 373, 373, 374, 375, 376, 376, 377, 378]) (by decide +kernel)
set_option maxRecDepth 100000 in
theorem m_lw_c1520 : ∀ w ∈ (wsL_law.drop 1520).take 40, w ∈ m_lw := m_pl (ps := [379, 413, 404, 406, 361, 407, 408, 409, 410, 348, 347, 411, 89, 349, 358, 362, 365, 367, 350, 351, 126, 127, 352, 357, 363, 383, 339, 384, 341, 385, 343, 353, 355, 345, 379, 380, 382, 345, 370, 371]) (by decide +kernel)
set_option maxRecDepth 100000 in
theorem m_lw_c1560 : ∀ w ∈ (wsL_law.drop 1560).take 40, w ∈ m_lw := m_pl (ps := [372, 373, 373, 374, 375, 376, 376, 377, 378, 379, 369, 328, 336, 337, 338, 340, 342, 344, 348, 347, 346, 89, 349, 358, 362, 365, 367, 350, 351, 126, 127, 352, 357, 363, 383, 339, 384, 341, 385, 343]) (by decide +kernel)
set_option maxRecDepth 100000 in
theorem m_lw_c1600 : ∀ w ∈ wsL_law.drop 1600, w ∈ m_lw := m_pl (ps := [353, 355, 345, 379, 380, 382, 345, 643, 644, 645, 373, 373, 374, 375, 376, 376, 377, 378, 379, 642, 633, 635, 360, 636, 637, 638, 639, 348, 347, 640]) (by decide +kernel)
theorem m_lw_in : ∀ w ∈ wsL_law, w ∈ m_lw := fun w h => (m_dt wsL_law 0 40 40 rfl _ m_lw_c0 (m_dt wsL_law 40 40 80 rfl _ m_lw_c40 (m_dt wsL_law 80 40 120 rfl _ m_lw_c80 (m_dt wsL_law 120 40 160 rfl _ m_lw_c120 (m_dt wsL_law 160 40 200 rfl _ m_lw_c160 (m_dt wsL_law 200 40 240 rfl _ m_lw_c200 (m_dt wsL_law 240 40 280 rfl _ m_lw_c240 (m_dt wsL_law 280 40 320 rfl _ m_lw_c280 (m_dt wsL_law 320 40 360 rfl _ m_lw_c320 (m_dt wsL_law 360 40 400 rfl _ m_lw_c360 (m_dt wsL_law 400 40 440 rfl _ m_lw_c400 (m_dt wsL_law 440 40 480 rfl _ m_lw_c440 (m_dt wsL_law 480 40 520 rfl _ m_lw_c480 (m_dt wsL_law 520 40 560 rfl _ m_lw_c520 (m_dt wsL_law 560 40 600 rfl _ m_lw_c560 (m_dt wsL_law 600 40 640 rfl _ m_lw_c600 (m_dt wsL_law 640 40 680 rfl _ m_lw_c640 (m_dt wsL_law 680 40 720 rfl _ m_lw_c680 (m_dt wsL_law 720 40 760 rfl _ m_lw_c720 (m_dt wsL_law 760 40 800 rfl _ m_lw_c760 (m_dt wsL_law 800 40 840 rfl _ m_lw_c800 (m_dt wsL_law 840 40 880 rfl _ m_lw_c840 (m_dt wsL_law 880 40 920 rfl _ m_lw_c880 (m_dt wsL_law 920 40 960 rfl _ m_lw_c920 (m_dt wsL_law 960 40 1000 rfl _ m_lw_c960 (m_dt wsL_law 1000 40 1040 rfl _ m_lw_c1000 (m_dt wsL_law 1040 40 1080 rfl _ m_lw_c1040 (m_dt wsL_law 1080 40 1120 rfl _ m_lw_c1080 (m_dt wsL_law 1120 40 1160 rfl _ m_lw_c1120 (m_dt wsL_law 1160 40 1200 rfl _ m_lw_c1160 (m_dt wsL_law 1200 40 1240 rfl _ m_lw_c1200 (m_dt wsL_law 1240 40 1280 rfl _ m_lw_c1240 (m_dt wsL_law 1280 40 1320 rfl _ m_lw_c1280 (m_dt wsL_law 1320 40 1360 rfl _ m_lw_c1320 (m_dt wsL_law 1360 40 1400 rfl _ m_lw_c1360 (m_dt wsL_law 1400 40 1440 rfl _ m_lw_c1400 (m_dt wsL_law 1440 40 1480 rfl _ m_lw_c1440 (m_dt wsL_law 1480 40 1520 rfl _ m_lw_c1480 (m_dt wsL_law 1520 40 1560 rfl _ m_lw_c1520 (m_dt wsL_law 1560 40 1600 rfl _ m_lw_c1560 m_lw_c1600)))))))))))))))))))))))))))))))))))))))) w h
