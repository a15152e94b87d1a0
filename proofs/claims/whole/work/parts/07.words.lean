theorem mem_p {big ws : List Cond} (ps : List Nat) (h : ws = ps.filterMap (fun i => big[i]?)) : ∀ w ∈ ws, w ∈ big := by
  intro w hw
  rw [h] at hw
  obtain ⟨i, -, hi⟩ := List.mem_filterMap.mp hw
  exact List.mem_of_getElem? hi
theorem zip_p {α : Type} {f : α → Bool → Cond} {big : List Cond} : ∀ (l : List α) (bs : List Bool), l.length = bs.length → (∀ w ∈ List.zipWith f l bs, w ∈ big) → ∀ e ∈ l, ∃ b, f e b ∈ big
  | [], _, _, _, _, he => absurd he List.not_mem_nil
  | _ :: _, [], hl, _, _, _ => absurd hl (by simp)
  | a :: l, b :: bs, hl, h, e, he => by
    rcases List.mem_cons.mp he with rfl | he
    · exact ⟨b, h _ (by simp)⟩
    · exact zip_p l bs (by simpa using hl) (fun w hw => h w (by simp [hw])) e he
theorem zip_p2 {α : Type} {f : α → Bool → Cond} {big : List Cond} {p : α → Bool → Bool} : ∀ (l : List α) (bs : List Bool), l.length = bs.length → (∀ w ∈ List.zipWith f l bs, w ∈ big) → (List.zipWith p l bs).all id = true → ∀ e ∈ l, ∃ b, f e b ∈ big ∧ p e b = true
  | [], _, _, _, _, _, he => absurd he List.not_mem_nil
  | _ :: _, [], hl, _, _, _, _ => absurd hl (by simp)
  | a :: l, b :: bs, hl, h, h2, e, he => by
    rw [List.zipWith_cons_cons, List.all_cons, Bool.and_eq_true] at h2
    rcases List.mem_cons.mp he with rfl | he
    · exact ⟨b, h _ (by simp), h2.1⟩
    · exact zip_p2 l bs (by simpa using hl) (fun w hw => h w (by simp [hw])) h2.2 e he
theorem map_p {α : Type} {f : α → Cond} {big : List Cond} {l : List α} (h : ∀ w ∈ l.map f, w ∈ big) : ∀ e ∈ l, f e ∈ big := fun e he => h _ (List.mem_map_of_mem he)
def clOf (c : Nat) : vw_C := vwCl.getD c ("", TX0, 0)
def fNm (c k : Nat) : String := bif Nat.beq c 13 then (bif Nat.beq k 0 then "value" else "coder") else ((clOf c).2.1 k).2.1
def fDs (c k : Nat) : String := bif Nat.beq c 13 then (bif Nat.beq k 0 then "[B" else "B") else ((clOf c).2.1 k).2.2.1
def fWd (e : Nat × Nat × Nat × Nat) (b : Bool) : Cond := match b with
  | true => .fieldLinkNest (cNm e.1) e.2.1 (cNm e.2.2.1) (fNm e.2.2.1 e.2.2.2) (fDs e.2.2.1 e.2.2.2) "StockEvents"
  | false => .fieldLink (cNm e.1) e.2.1 (cNm e.2.2.1) (fNm e.2.2.1 e.2.2.2) (fDs e.2.2.1 e.2.2.2)
set_option maxRecDepth 100000 in
theorem w_fT2 : ∀ e ∈ fTab, ∃ b, fWd e b ∈ lw_tbl ∧ (!b || !(Nat.beq e.1 e.2.2.1 || Nat.beq e.2.2.1 13)) = true := zip_p2 (p := fun e b => !b || !(Nat.beq e.1 e.2.2.1 || Nat.beq e.2.2.1 13)) fTab [false, false, false, false, false, true, false, false, false, false, false, false, true, false, true, false, true, true, false, true, true, false, true, false, false, false, false, false, true, true, false, false, false, false, true, false, true, true, false, false, false, false, true, false, true, false, true, false, true, false, true, false, false, true, false, true, false, true, false, true, false, true, false, true, false, false, true, false, true, false, false, false, false, false, false, true, true, true, false, true, true, false, true, true, true, false, false, false, false, false, false, false, false, true, false, false, true, true, false, false, false, true, false, true, true, false, true, true, false, true, true, false, false, false, false, false, false, false, false, false, false, false, false, false, false, false, false, false, false, false, false, false, false, false, false, false, false, false, false, false, false, false, false, false, false, false, false, false, false, false, false, false, false, false, false, false, false, false, false, false, false, false, false, false, false, false, false, false, false, false, false, false, false, false, false, false, false, false, false, false, false, false, false, false, false, false, false, false, false, false, false] (by decide +kernel) (mem_p [122, 123, 124, 125, 126, 127, 128, 129, 161, 165, 166, 167, 168, 169, 170, 171, 172, 173, 174, 175, 176, 177, 178, 206, 207, 208, 209, 210, 211, 212, 245, 246, 247, 248, 249, 250, 251, 252, 270, 271, 272, 289, 290, 291, 292, 293, 294, 295, 296, 297, 298, 299, 300, 301, 302, 303, 304, 305, 306, 307, 308, 309, 310, 311, 312, 313, 314, 315, 316, 348, 349, 350, 351, 352, 452, 453, 454, 455, 456, 457, 458, 459, 460, 461, 462, 463, 593, 594, 922, 923, 924, 925, 926, 927, 928, 929, 930, 931, 1041, 1042, 1043, 1044, 1045, 1046, 1047, 1048, 1049, 1050, 1051, 1052, 1053, 1226, 1227, 1228, 1229, 1230, 1231, 1232, 1233, 1234, 1235, 1236, 1237, 1238, 1239, 1240, 1241, 1242, 1243, 1244, 1245, 1246, 1247, 1248, 1249, 1250, 1251, 1252, 1253, 1254, 1255, 1256, 1257, 1258, 1259, 1260, 1261, 1262, 1263, 1264, 1265, 1266, 1267, 1268, 1269, 1270, 1271, 1272, 1273, 1274, 1275, 1276, 1277, 1278, 1279, 1280, 1281, 1282, 1283, 1284, 1285, 1286, 1287, 1288, 1289, 1290, 1291, 1292, 1293, 1294, 1295, 1296, 1297, 1298, 1299, 1300, 1301, 1302, 1303, 1862, 1863] (by decide +kernel)) (by decide +kernel)
theorem w_fT : ∀ e ∈ fTab, ∃ b, fWd e b ∈ lw_tbl := fun e he => (w_fT2 e he).imp (fun _ h => h.1)
def mWd (e : Nat × Nat × Nat) (b : Bool) : Cond := match b with
  | true => .methodLinkNest (cNm e.1) e.2.1 (mNm e.2.2) "StockEvents"
  | false => .methodLink (cNm e.1) e.2.1 (mNm e.2.2)
set_option maxRecDepth 100000 in
theorem w_mT : ∀ e ∈ mTab, ∃ b, mWd e b ∈ lw_tbl := zip_p mTab [false, false, false, false, false, false, false, false, false, false, false, false, false, false, false, false, false, false, false, false, false, false, false, false, false, false, false, false, false, false, false, false, false, false, false, false, false, false, false, false, false, false, false, false, false, false, false, false, false, false, false, false, false, false, false, false, false, false, false, false, false, false, false, false, false, false, false, false, false, false, false, false, false, false, false, false, false, false, false, false, false, false, false, false, false, false, false, false, false, false, false, false, false, false, false, false, false, false, false, true, false, false, false, false, false, false, false, false, false, false, false, false, false, false, false, false, false, false, false, false, false, false, false, false, false, false, false, false, false, false, false, false, false, false, false, false, false, false, false, false, false, false, false, false, false, false, false, false, false, false, false, false, false, false, false, false, false, false, false, false, false, false, false, false, false, false, false, false, false, false, false, false, false, false, false, false, false, false, false, false, false, false, false, false, false, false, false, false, false, false, false, false, false, false, false, false, false, false, false, false, false, false, false, false, false, false, false, false, false, false, false, false, false, false, false, false, false, false, false, false, false, false, false, false, false, false, false, false, false, false, false, false, false, false, false, false, false, false, false, false, false, false, false, false, false, false, false, false, false, false, false, false, false, false, false, false, false, false, false, false, false, false, false, false, false, false, false, false, false, false, false, false, false, false, false, false, false, false, false, false, false, false, false, false, false, false, false, false, false, false, false, false, false, false, false, false, false, false, false, false, false, false, false, false, false, false, false, false, false, false, false, false, false, false, false, false, false, false, false, false, false, false] (by decide +kernel) (mem_p [109, 117, 149, 157, 196, 202, 225, 228, 235, 239, 266, 284, 288, 364, 368, 371, 375, 379, 382, 386, 391, 395, 399, 400, 404, 408, 438, 442, 448, 473, 477, 481, 485, 489, 493, 496, 500, 504, 508, 512, 516, 517, 520, 523, 526, 529, 567, 575, 585, 589, 601, 605, 609, 613, 617, 621, 625, 629, 633, 637, 641, 645, 649, 650, 654, 658, 662, 666, 670, 674, 678, 682, 686, 687, 691, 695, 699, 704, 708, 712, 713, 714, 718, 719, 720, 721, 726, 727, 729, 730, 734, 738, 739, 743, 747, 748, 752, 756, 760, 764, 765, 769, 773, 776, 779, 780, 784, 785, 790, 791, 792, 796, 800, 804, 805, 806, 810, 814, 818, 822, 823, 827, 828, 832, 833, 837, 841, 845, 846, 847, 848, 849, 853, 857, 861, 867, 872, 873, 874, 878, 882, 887, 891, 895, 898, 904, 912, 918, 947, 951, 956, 957, 961, 965, 969, 973, 977, 978, 982, 986, 987, 988, 992, 996, 1000, 1006, 1010, 1011, 1015, 1019, 1023, 1024, 1028, 1037, 1067, 1071, 1075, 1079, 1083, 1084, 1088, 1089, 1090, 1091, 1095, 1099, 1103, 1104, 1105, 1109, 1113, 1117, 1122, 1126, 1130, 1131, 1132, 1133, 1138, 1139, 1140, 1144, 1149, 1155, 1159, 1163, 1168, 1173, 1179, 1183, 1185, 1190, 1191, 1195, 1199, 1203, 1207, 1211, 1215, 1221, 1463, 1467, 1470, 1474, 1478, 1482, 1486, 1490, 1494, 1498, 1502, 1506, 1510, 1514, 1518, 1522, 1526, 1530, 1534, 1538, 1542, 1546, 1549, 1553, 1557, 1561, 1565, 1569, 1573, 1577, 1580, 1584, 1588, 1592, 1596, 1597, 1601, 1605, 1609, 1613, 1617, 1621, 1625, 1629, 1633, 1637, 1641, 1645, 1649, 1653, 1657, 1661, 1665, 1669, 1673, 1679, 1683, 1687, 1691, 1695, 1699, 1704, 1708, 1712, 1716, 1722, 1726, 1729, 1733, 1737, 1741, 1745, 1748, 1752, 1756, 1760, 1764, 1768, 1769, 1773, 1777, 1781, 1785, 1789, 1793, 1796, 1799, 1803, 1807, 1811, 1815, 1818, 1822, 1826, 1830, 1834, 1838, 1842, 1846, 1850, 1854, 1858] (by decide +kernel))
set_option maxRecDepth 100000 in
theorem w_nT : ∀ e ∈ nTab, Cond.classLink (cNm e.1) e.2.1 (cNm e.2.2) ∈ lw_tbl := map_p (f := fun (e : Nat × Nat × Nat) => Cond.classLink (cNm e.1) e.2.1 (cNm e.2.2)) (mem_p [107, 115, 147, 153, 155, 194, 200, 224, 226, 232, 264, 280, 282, 446, 573, 916, 955, 1035, 1189, 1219] (by decide +kernel))
set_option maxRecDepth 100000 in
theorem w_kT : ∀ e ∈ kTab, Cond.constant (cNm e.1) e.2.1 e.2.2 ∈ lw_tbl := map_p (f := fun (e : Nat × Nat × Int32) => Cond.constant (cNm e.1) e.2.1 e.2.2) (mem_p [789, 1003, 1004, 1005, 1148, 1225, 1560] (by decide +kernel))
set_option maxRecDepth 100000 in
theorem w_klT : ∀ e ∈ klTab, Cond.constantLong (cNm e.1) e.2.1 (lTab e.2.2) ∈ lw_tbl := map_p (f := fun (e : Nat × Nat × Nat) => Cond.constantLong (cNm e.1) e.2.1 (lTab e.2.2)) (mem_p [865, 866, 886, 1137, 1153, 1154, 1677, 1678, 1703, 1720, 1721] (by decide +kernel))
set_option maxRecDepth 100000 in
theorem w_oiT : ∀ e ∈ oiTab, Cond.methodLink (cNm e.1) e.2 Lib.objectInit ∈ lw_tbl := map_p (f := fun (e : Nat × Nat) => Cond.methodLink (cNm e.1) e.2 Lib.objectInit) (mem_p [112, 120, 152, 160, 199, 205, 231, 269, 451, 592, 921, 1040, 1224] (by decide +kernel))
set_option maxRecDepth 100000 in
theorem w_acT : ∀ e ∈ acTab, Cond.methodLink (cNm e.1) e.2 arraycopyName ∈ lw_tbl := map_p (f := fun (e : Nat × Nat) => Cond.methodLink (cNm e.1) e.2 arraycopyName) (mem_p [586, 703, 1167, 1172, 1177, 1178, 1184] (by decide +kernel))
abbrev nM : Nat := 268
def mMx (y : Nat) : Nat := (mtdL.getD y (⟨"", "", ""⟩, ByteArray.empty, 0, none)).2.2.1
def mRt (y : Nat) : Option FieldType := (mtdL.getD y (⟨"", "", ""⟩, ByteArray.empty, 0, none)).2.2.2
def cdM (y : Nat) : ByteArray := (mtdL.getD y (⟨"", "", ""⟩, ByteArray.empty, 0, none)).2.1
set_option maxRecDepth 100000 in
theorem w_code0 : (List.range nM).map (fun y => Cond.code (mNm y) (cdM y) (mMx y) (mRt y)) = [111, 119, 151, 159, 198, 204, 230, 238, 242, 268, 286, 367, 370, 374, 378, 381, 385, 389, 394, 398, 403, 407, 410, 441, 445, 450, 476, 480, 484, 488, 492, 495, 499, 503, 507, 511, 515, 519, 522, 525, 528, 531, 569, 577, 591, 604, 608, 612, 616, 620, 624, 628, 632, 636, 640, 644, 648, 653, 657, 661, 665, 669, 673, 677, 681, 685, 690, 694, 698, 702, 707, 711, 717, 724, 733, 737, 742, 746, 751, 755, 759, 763, 768, 772, 775, 778, 783, 788, 795, 799, 803, 809, 813, 817, 821, 826, 831, 836, 840, 844, 852, 856, 860, 864, 870, 877, 881, 885, 890, 894, 897, 901, 907, 914, 920, 950, 954, 960, 964, 968, 972, 976, 981, 985, 991, 995, 999, 1002, 1009, 1014, 1018, 1022, 1027, 1031, 1039, 1070, 1074, 1078, 1082, 1087, 1094, 1098, 1102, 1108, 1112, 1116, 1120, 1125, 1129, 1136, 1143, 1147, 1152, 1158, 1162, 1166, 1171, 1176, 1182, 1188, 1194, 1198, 1202, 1206, 1210, 1214, 1218, 1223, 1466, 1469, 1473, 1477, 1481, 1485, 1489, 1493, 1497, 1501, 1505, 1509, 1513, 1517, 1521, 1525, 1529, 1533, 1537, 1541, 1545, 1548, 1552, 1556, 1559, 1564, 1568, 1572, 1576, 1579, 1583, 1587, 1591, 1595, 1600, 1604, 1608, 1612, 1616, 1620, 1624, 1628, 1632, 1636, 1640, 1644, 1648, 1652, 1656, 1660, 1664, 1668, 1672, 1676, 1682, 1686, 1690, 1694, 1698, 1702, 1707, 1711, 1715, 1719, 1725, 1728, 1732, 1736, 1740, 1744, 1747, 1751, 1755, 1759, 1763, 1767, 1772, 1776, 1780, 1784, 1788, 1792, 1795, 1798, 1802, 1806, 1810, 1814, 1817, 1821, 1825, 1829, 1833, 1837, 1841, 1845, 1849, 1853, 1857, 1861].filterMap (fun i => lw_tbl[i]?) := by rfl
theorem w_code {y : Nat} (h : y < nM) : Cond.code (mNm y) (cdM y) (mMx y) (mRt y) ∈ lw_tbl := map_p (f := fun y => Cond.code (mNm y) (cdM y) (mMx y) (mRt y)) (mem_p _ w_code0) y (List.mem_range.mpr h)
def stYs : List Nat := [10, 12, 15, 22, 31, 37, 38, 39, 40, 41, 42, 43, 84, 85, 110, 113, 127, 169, 189, 192, 197, 233, 238, 250, 251, 256]
def inYs : List Nat := [0, 1, 2, 3, 4, 5, 6, 7, 8, 9, 11, 13, 14, 16, 17, 18, 19, 20, 21, 23, 24, 25, 26, 27, 28, 29, 30, 32, 33, 34, 35, 36, 44, 45, 46, 47, 48, 49, 50, 51, 52, 53, 54, 55, 56, 57, 58, 59, 60, 61, 62, 63, 64, 65, 66, 67, 68, 69, 70, 71, 72, 73, 74, 75, 76, 77, 78, 79, 80, 81, 82, 83, 86, 87, 88, 89, 90, 91, 92, 93, 94, 95, 96, 97, 98, 99, 100, 101, 102, 103, 104, 105, 106, 107, 108, 109, 111, 112, 114, 115, 116, 117, 118, 119, 120, 121, 122, 123, 124, 125, 126, 128, 129, 130, 131, 132, 133, 134, 135, 136, 137, 138, 139, 140, 141, 142, 143, 144, 145, 146, 147, 148, 149, 150, 151, 152, 153, 154, 155, 156, 157, 158, 159, 160, 161, 162, 163, 164, 165, 166, 167, 168, 170, 171, 172, 173, 174, 175, 176, 177, 178, 179, 180, 181, 182, 183, 184, 185, 186, 187, 188, 190, 191, 193, 194, 195, 196, 198, 199, 200, 201, 202, 203, 204, 205, 206, 207, 208, 209, 210, 211, 212, 213, 214, 215, 216, 217, 218, 219, 220, 221, 222, 223, 224, 225, 226, 227, 228, 229, 230, 231, 232, 234, 235, 236, 237, 239, 240, 241, 242, 243, 244, 245, 246, 247, 248, 249, 252, 253, 254, 255, 257, 258, 259, 260, 261, 262, 263, 264, 265, 266, 267]
set_option maxRecDepth 100000 in
theorem w_stat : ∀ y ∈ stYs, Cond.static (mNm y) ∈ lw_tbl := map_p (f := fun y => Cond.static (mNm y)) (mem_p [285, 369, 380, 409, 494, 518, 521, 524, 527, 530, 568, 576, 774, 777, 896, 913, 1001, 1468, 1547, 1558, 1578, 1727, 1746, 1794, 1797, 1816] (by decide +kernel))
set_option maxRecDepth 100000 in
theorem w_inst : ∀ y ∈ inYs, Cond.instanceMethod (mNm y) ∈ lw_tbl := map_p (f := fun y => Cond.instanceMethod (mNm y)) (mem_p [110, 118, 150, 158, 197, 203, 229, 236, 240, 267, 365, 372, 376, 383, 387, 392, 397, 401, 405, 440, 444, 449, 474, 479, 482, 487, 491, 497, 502, 506, 509, 513, 590, 602, 606, 611, 614, 619, 622, 626, 630, 634, 639, 642, 646, 652, 655, 660, 664, 667, 672, 675, 679, 683, 688, 692, 696, 700, 705, 709, 716, 722, 731, 735, 740, 744, 750, 753, 757, 761, 767, 770, 781, 786, 793, 798, 801, 807, 811, 815, 820, 824, 829, 834, 838, 842, 850, 854, 859, 863, 869, 875, 879, 883, 888, 892, 899, 905, 919, 948, 952, 958, 962, 966, 971, 974, 979, 984, 989, 993, 997, 1007, 1012, 1016, 1020, 1025, 1029, 1038, 1068, 1072, 1077, 1080, 1085, 1092, 1096, 1100, 1106, 1110, 1114, 1118, 1123, 1128, 1134, 1141, 1145, 1150, 1156, 1160, 1164, 1169, 1174, 1180, 1186, 1192, 1196, 1200, 1204, 1208, 1212, 1216, 1222, 1464, 1471, 1476, 1480, 1484, 1488, 1492, 1496, 1500, 1504, 1508, 1512, 1516, 1520, 1524, 1528, 1532, 1536, 1540, 1544, 1551, 1554, 1563, 1567, 1571, 1575, 1582, 1585, 1590, 1593, 1598, 1603, 1606, 1610, 1614, 1619, 1623, 1627, 1631, 1635, 1639, 1643, 1646, 1651, 1655, 1659, 1663, 1667, 1671, 1674, 1680, 1685, 1688, 1693, 1697, 1701, 1705, 1709, 1713, 1717, 1723, 1731, 1735, 1739, 1743, 1750, 1753, 1757, 1762, 1766, 1770, 1774, 1779, 1783, 1786, 1790, 1800, 1805, 1808, 1812, 1819, 1823, 1828, 1831, 1835, 1840, 1844, 1848, 1851, 1855, 1859] (by decide +kernel))
def slYs : List Nat := [7, 8, 11, 13, 14, 16, 17, 18, 19, 20, 21, 23, 24, 26, 27, 28, 29, 30, 32, 33, 34, 35, 36, 45, 46, 47, 48, 49, 50, 51, 52, 53, 54, 55, 56, 57, 58, 59, 60, 61, 62, 63, 64, 65, 66, 67, 68, 69, 70, 71, 72, 73, 74, 75, 76, 77, 78, 79, 80, 81, 82, 83, 86, 87, 88, 89, 90, 91, 92, 93, 94, 95, 96, 97, 98, 99, 100, 101, 102, 103, 104, 105, 106, 107, 108, 109, 111, 112, 115, 116, 117, 118, 119, 120, 121, 122, 123, 124, 125, 126, 128, 129, 130, 131, 132, 133, 135, 136, 137, 138, 139, 140, 141, 142, 143, 144, 145, 146, 147, 148, 149, 150, 151, 152, 153, 154, 155, 156, 157, 158, 159, 160, 161, 162, 163, 164, 165, 166, 168, 170, 171, 172, 173, 174, 175, 176, 177, 178, 179, 180, 181, 182, 183, 184, 185, 186, 187, 188, 190, 191, 193, 194, 195, 196, 198, 199, 200, 201, 202, 203, 204, 205, 206, 207, 208, 209, 210, 211, 212, 213, 214, 215, 216, 217, 218, 219, 220, 221, 222, 223, 224, 225, 226, 227, 228, 229, 230, 231, 232, 234, 235, 236, 237, 239, 240, 241, 242, 243, 244, 245, 246, 247, 248, 249, 252, 253, 254, 255, 257, 258, 259, 260, 261, 262, 263, 264, 265, 266, 267]
set_option maxRecDepth 100000 in
theorem w_sel : ∀ y ∈ slYs, Cond.selects (cNm (mcL.getD y 99)) (mNm y) (mNm y) ∈ lw_tbl := map_p (f := fun y => Cond.selects (cNm (mcL.getD y 99)) (mNm y) (mNm y)) (mem_p [237, 241, 366, 373, 377, 384, 388, 393, 0, 402, 406, 1, 2, 475, 3, 483, 4, 5, 498, 6, 7, 510, 514, 603, 607, 8, 615, 9, 623, 627, 631, 635, 10, 643, 647, 11, 656, 12, 13, 668, 14, 676, 680, 684, 689, 693, 697, 701, 706, 710, 15, 723, 732, 736, 741, 745, 16, 754, 758, 762, 17, 771, 782, 787, 794, 18, 802, 808, 812, 816, 19, 825, 830, 835, 839, 843, 851, 855, 20, 21, 22, 876, 880, 884, 889, 893, 900, 906, 949, 953, 959, 963, 967, 23, 975, 980, 24, 990, 994, 998, 1008, 1013, 1017, 1021, 1026, 1030, 1069, 1073, 25, 1081, 1086, 1093, 1097, 1101, 1107, 1111, 1115, 1119, 1124, 26, 1135, 1142, 1146, 1151, 1157, 1161, 1165, 1170, 1175, 1181, 1187, 1193, 1197, 1201, 1205, 1209, 1213, 1217, 1465, 1472, 27, 28, 29, 30, 31, 32, 33, 34, 35, 36, 37, 38, 39, 40, 41, 42, 43, 44, 45, 1555, 46, 47, 48, 49, 50, 1586, 51, 1594, 1599, 52, 1607, 1611, 1615, 53, 54, 55, 56, 57, 58, 59, 1647, 60, 61, 62, 63, 64, 65, 1675, 1681, 66, 1689, 67, 68, 69, 1706, 1710, 1714, 1718, 1724, 70, 71, 72, 73, 74, 1754, 1758, 75, 76, 1771, 1775, 77, 78, 1787, 1791, 1801, 79, 1809, 1813, 1820, 1824, 80, 1832, 1836, 81, 82, 83, 1852, 1856, 1860] (by decide +kernel))
set_option maxRecDepth 100000 in
theorem w_init0 : ∀ c ∈ List.range 18, Cond.initialized (cNm c) ∈ lw_tbl := map_p (f := fun c => Cond.initialized (cNm c)) (mem_p [87, 88, 99, 91, 102, 90, 106, 104, 93, 89, 86, 85, 95, 92, 96, 105, 100, 94] (by decide +kernel))
theorem w_init {c : Nat} (h : c < 18) : Cond.initialized (cNm c) ∈ lw_tbl := w_init0 c (List.mem_range.mpr h)
set_option maxRecDepth 100000 in
theorem w_new0 : ∀ c ∈ List.range 13, Cond.instantiable (cNm c) (nfL.getD c 0) ∈ lw_tbl := map_p (f := fun c => Cond.instantiable (cNm c) (nfL.getD c 0)) (mem_p [148, 156, 447, 227, 574, 201, 1036, 917, 265, 195, 116, 108, 1220] (by decide +kernel))
theorem w_new {c : Nat} (h : c < 13) : Cond.instantiable (cNm c) (nfL.getD c 0) ∈ lw_tbl := w_new0 c (List.mem_range.mpr h)
set_option maxRecDepth 100000 in
theorem w_lay0 : ∀ w ∈ u_ws RX0 TX0 7, w ∈ lw_tbl := mem_p [179, 181, 183, 185, 187, 189, 191] (by decide +kernel)
set_option maxRecDepth 100000 in
theorem w_lay1 : ∀ w ∈ u_ws RX1 TX1 1, w ∈ lw_tbl := mem_p [162] (by decide +kernel)
set_option maxRecDepth 100000 in
theorem w_lay2 : ∀ w ∈ u_ws RX2 TX2 4, w ∈ lw_tbl := mem_p [464, 466, 468, 470] (by decide +kernel)
set_option maxRecDepth 100000 in
theorem w_lay3 : ∀ w ∈ u_ws RX3 TX3 5, w ∈ lw_tbl := mem_p [253, 255, 257, 259, 261] (by decide +kernel)
set_option maxRecDepth 100000 in
theorem w_lay4 : ∀ w ∈ u_ws RX4 TX4 2, w ∈ lw_tbl := mem_p [595, 597] (by decide +kernel)
set_option maxRecDepth 100000 in
theorem w_lay5 : ∀ w ∈ u_ws RX5 TX5 5, w ∈ lw_tbl := mem_p [213, 215, 217, 219, 221] (by decide +kernel)
set_option maxRecDepth 100000 in
theorem w_lay6 : ∀ w ∈ u_ws RX6 TX6 6, w ∈ lw_tbl := mem_p [1054, 1056, 1058, 1060, 1062, 1064] (by decide +kernel)
set_option maxRecDepth 100000 in
theorem w_lay7 : ∀ w ∈ u_ws RX7 TX7 7, w ∈ lw_tbl := mem_p [932, 934, 936, 938, 940, 942, 944] (by decide +kernel)
set_option maxRecDepth 100000 in
theorem w_lay8 : ∀ w ∈ u_ws RX8 TX8 3, w ∈ lw_tbl := mem_p [273, 275, 277] (by decide +kernel)
set_option maxRecDepth 100000 in
theorem w_lay9 : ∀ w ∈ u_ws RX9 TX9 15, w ∈ lw_tbl := mem_p [317, 319, 321, 323, 325, 327, 329, 331, 333, 335, 337, 339, 341, 343, 345] (by decide +kernel)
set_option maxRecDepth 100000 in
theorem w_lay10 : ∀ w ∈ u_ws RX10 TX10 7, w ∈ lw_tbl := mem_p [130, 132, 134, 136, 138, 140, 142] (by decide +kernel)
set_option maxRecDepth 100000 in
theorem w_lay11 : ∀ w ∈ u_ws RX11 TX11 5, w ∈ lw_tbl := mem_p [353, 355, 357, 359, 361] (by decide +kernel)
set_option maxRecDepth 100000 in
theorem w_lay12 : ∀ w ∈ u_ws RX12 TX12 79, w ∈ lw_tbl := mem_p [1304, 1306, 1308, 1310, 1312, 1314, 1316, 1318, 1320, 1322, 1324, 1326, 1328, 1330, 1332, 1334, 1336, 1338, 1340, 1342, 1344, 1346, 1348, 1350, 1352, 1354, 1356, 1358, 1360, 1362, 1364, 1366, 1368, 1370, 1372, 1374, 1376, 1378, 1380, 1382, 1384, 1386, 1388, 1390, 1392, 1394, 1396, 1398, 1400, 1402, 1404, 1406, 1408, 1410, 1412, 1414, 1416, 1418, 1420, 1422, 1424, 1426, 1428, 1430, 1432, 1434, 1436, 1438, 1440, 1442, 1444, 1446, 1448, 1450, 1452, 1454, 1456, 1458, 1460] (by decide +kernel)
set_option maxRecDepth 100000 in
theorem w_oiI : Cond.instanceMethod Lib.objectInit ∈ lw_tbl := List.mem_of_getElem? (i := 113) (by decide +kernel)
set_option maxRecDepth 100000 in
theorem w_oiC : Cond.code Lib.objectInit ⟨#[0xb1]⟩ 1 none ∈ lw_tbl := List.mem_of_getElem? (i := 114) (by decide +kernel)
set_option maxRecDepth 100000 in
theorem w_acN : Cond.native arraycopyName ∈ lw_tbl := List.mem_of_getElem? (i := 588) (by decide +kernel)
set_option maxRecDepth 100000 in
theorem w_acS : Cond.static arraycopyName ∈ lw_tbl := List.mem_of_getElem? (i := 587) (by decide +kernel)
set_option maxRecDepth 100000 in
theorem w_acI : Cond.initialized "java/lang/System" ∈ lw_tbl := List.mem_of_getElem? (i := 103) (by decide +kernel)
set_option maxRecDepth 100000 in
theorem w_aci : Cond.arrayClass .int ∈ lw_tbl := List.mem_of_getElem? (i := 145) (by decide +kernel)
set_option maxRecDepth 100000 in
theorem w_acb : Cond.arrayClass .byte ∈ lw_tbl := List.mem_of_getElem? (i := 146) (by decide +kernel)
set_option maxRecDepth 100000 in
theorem w_ao2 : Cond.arrayOver (.object (cNm 2)) ∈ lw_tbl := List.mem_of_getElem? (i := 154) (by decide +kernel)
set_option maxRecDepth 100000 in
theorem w_ao4 : Cond.arrayOver (.object (cNm 4)) ∈ lw_tbl := List.mem_of_getElem? (i := 233) (by decide +kernel)
set_option maxRecDepth 100000 in
theorem w_ao6 : Cond.arrayOver (.object (cNm 6)) ∈ lw_tbl := List.mem_of_getElem? (i := 283) (by decide +kernel)
set_option maxRecDepth 100000 in
theorem w_ao7 : Cond.arrayOver (.object (cNm 7)) ∈ lw_tbl := List.mem_of_getElem? (i := 281) (by decide +kernel)
set_option maxRecDepth 100000 in
theorem w_clM : Cond.methodLink "java/util/Arrays" 316 ⟨"[I", "clone", "()Ljava/lang/Object;"⟩ ∈ lw_tbl := List.mem_of_getElem? (i := 578) (by decide +kernel)
set_option maxRecDepth 100000 in
theorem w_clSm : Cond.sameMethod "[I" "java/lang/Object" "clone" "()Ljava/lang/Object;" ∈ lw_tbl := List.mem_of_getElem? (i := 579) (by decide +kernel)
set_option maxRecDepth 100000 in
theorem w_clN : Cond.native ⟨"java/lang/Object", "clone", "()Ljava/lang/Object;"⟩ ∈ lw_tbl := List.mem_of_getElem? (i := 580) (by decide +kernel)
set_option maxRecDepth 100000 in
theorem w_clI : Cond.instanceMethod ⟨"java/lang/Object", "clone", "()Ljava/lang/Object;"⟩ ∈ lw_tbl := List.mem_of_getElem? (i := 581) (by decide +kernel)
set_option maxRecDepth 100000 in
theorem w_clS : Cond.selects "[I" ⟨"[I", "clone", "()Ljava/lang/Object;"⟩ ⟨"java/lang/Object", "clone", "()Ljava/lang/Object;"⟩ ∈ lw_tbl := List.mem_of_getElem? (i := 582) (by decide +kernel)
set_option maxRecDepth 100000 in
theorem w_clC : Cond.castable "[I" "java/lang/Cloneable" ∈ lw_tbl := List.mem_of_getElem? (i := 583) (by decide +kernel)
set_option maxRecDepth 100000 in
theorem w_ccL : Cond.classLink "java/util/Arrays" 317 "[I" ∈ lw_tbl := List.mem_of_getElem? (i := 584) (by decide +kernel)
set_option maxRecDepth 100000 in
theorem w_gsL : Cond.fieldLink "java/lang/String" 38 "java/lang/String" "COMPACT_STRINGS" "Z" ∈ lw_tbl := List.mem_of_getElem? (i := 243) (by decide +kernel)
set_option maxRecDepth 100000 in
theorem w_ciL : Cond.methodLink "java/lang/StringLatin1" 9 ⟨"java/lang/String", "checkIndex", "(II)V"⟩ ∈ lw_tbl := List.mem_of_getElem? (i := 411) (by decide +kernel)
def rkOf (r : Option FieldType) : Nat := match r with
  | none => 0
  | some .int => 1
  | some .boolean => 2
  | some .char => 3
  | some .byte => 4
  | some .long => 5
  | some (.object _) => 6
  | some (.array _) => 6
  | _ => 9
def mFacts (y : Nat) : Bool := decide (mMx y = mxL.getD y 0) && decide (rkOf (mRt y) = rkL.getD y 9) && decide ((mNm y).cls = cNm (mcL.getD y 99)) && plainFor (mNm y) && decide ((mNm y).cls ≠ "java/lang/invoke/MethodHandle") && decide ((mNm y).cls ≠ "java/lang/invoke/VarHandle")
  && decide ((parseMethodDescriptor (mNm y).desc).map (fun d => d.parameters.length) = some (bif stL.getD y true then naL.getD y 0 else naL.getD y 0 - 1)) && (bif stL.getD y true then stYs.contains y else inYs.contains y && (slYs.contains y || isIni y)) && Nat.blt (mcL.getD y 99) 18 && Nat.ble (naL.getD y 0) (mxL.getD y 0) && Nat.ble (mxL.getD y 0) 40 && (!isIni y || decide (mRt y = none))
set_option maxRecDepth 100000 in
theorem m_facts0 : (List.range nM).all mFacts = true := by decide +kernel
theorem m_facts {y : Nat} (h : y < nM) : mFacts y = true := List.all_eq_true.mp m_facts0 y (List.mem_range.mpr h)
