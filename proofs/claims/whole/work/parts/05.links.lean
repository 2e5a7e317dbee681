/-! WORDS: what the links and calls of the little machine rest on, out of the claim's tables by places (printed by wip/whole/gen12.py) -/
def lw_good : List Cond := lw_tbl.filter goodWord
theorem lw_in {w : Cond} (i : Nat) (h : lw_tbl[i]? = some w) (g : goodWord w = true) : w ∈ lw_good := List.mem_filter.mpr ⟨List.mem_of_getElem? h, g⟩
def lt_isN : Cond → Bool
  | .methodLinkNest _ _ _ _ => true
  | .declares _ => true
  | .castable _ _ => true
  | _ => false
def lt_nws : List Cond := lw_tbl.filter lt_isN
theorem lt_nin {w : Cond} (i : Nat) (h : lw_tbl[i]? = some w) (g : lt_isN w = true) : w ∈ lt_nws := List.mem_filter.mpr ⟨List.mem_of_getElem? h, g⟩
/-- places of a method's words: its code, its class initialized, static or not, what it selects -/
def lt_pl (m : Nat) : Nat × Nat × Nat × Nat := bif Nat.blt m 152 then (bif Nat.blt m 76 then (bif Nat.blt m 38 then (bif Nat.blt m 19 then (bif Nat.blt m 9 then (bif Nat.blt m 4 then (bif Nat.blt m 2 then (bif Nat.blt m 1 then ((122, 88, 121, 0)) else ((560, 88, 558, 559))) else (bif Nat.blt m 3 then ((930, 88, 928, 929)) else ((962, 88, 960, 961)))) else (bif Nat.blt m 6 then (bif Nat.blt m 5 then ((977, 88, 975, 976)) else ((582, 88, 580, 581))) else (bif Nat.blt m 7 then ((590, 88, 588, 589)) else (bif Nat.blt m 8 then ((541, 88, 539, 540)) else ((185, 92, 184, 0)))))) else (bif Nat.blt m 14 then (bif Nat.blt m 11 then (bif Nat.blt m 10 then ((320, 92, 318, 319)) else ((1029, 92, 1027, 1028))) else (bif Nat.blt m 12 then ((325, 92, 323, 324)) else (bif Nat.blt m 13 then ((616, 92, 614, 615)) else ((643, 92, 642, 2))))) else (bif Nat.blt m 16 then (bif Nat.blt m 15 then ((647, 92, 646, 3)) else ((716, 92, 715, 11))) else (bif Nat.blt m 17 then ((721, 92, 720, 12)) else (bif Nat.blt m 18 then ((725, 92, 724, 13)) else ((657, 92, 656, 4))))))) else (bif Nat.blt m 28 then (bif Nat.blt m 23 then (bif Nat.blt m 21 then (bif Nat.blt m 20 then ((665, 92, 664, 5)) else ((673, 92, 672, 6))) else (bif Nat.blt m 22 then ((669, 92, 667, 668)) else ((681, 92, 680, 7)))) else (bif Nat.blt m 25 then (bif Nat.blt m 24 then ((685, 92, 684, 8)) else ((692, 92, 691, 9))) else (bif Nat.blt m 26 then ((706, 92, 705, 10)) else (bif Nat.blt m 27 then ((606, 92, 604, 605)) else ((598, 92, 596, 597)))))) else (bif Nat.blt m 33 then (bif Nat.blt m 30 then (bif Nat.blt m 29 then ((1041, 92, 1039, 1040)) else ((699, 92, 697, 698))) else (bif Nat.blt m 31 then ((1190, 92, 1188, 1189)) else (bif Nat.blt m 32 then ((1101, 92, 1099, 1100)) else ((564, 92, 562, 563))))) else (bif Nat.blt m 35 then (bif Nat.blt m 34 then ((363, 95, 362, 0)) else ((1096, 95, 1094, 1095))) else (bif Nat.blt m 36 then ((1077, 95, 1075, 1076)) else (bif Nat.blt m 37 then ((533, 95, 531, 532)) else ((128, 89, 127, 0)))))))) else (bif Nat.blt m 57 then (bif Nat.blt m 47 then (bif Nat.blt m 42 then (bif Nat.blt m 40 then (bif Nat.blt m 39 then ((950, 89, 948, 949)) else ((661, 89, 659, 660))) else (bif Nat.blt m 41 then ((677, 89, 675, 676)) else ((652, 89, 650, 651)))) else (bif Nat.blt m 44 then (bif Nat.blt m 43 then ((545, 89, 543, 544)) else ((155, 91, 154, 0))) else (bif Nat.blt m 45 then ((981, 91, 979, 980)) else (bif Nat.blt m 46 then ((1129, 91, 1127, 1128)) else ((783, 91, 781, 782)))))) else (bif Nat.blt m 52 then (bif Nat.blt m 49 then (bif Nat.blt m 48 then ((831, 91, 829, 830)) else ((555, 91, 553, 554))) else (bif Nat.blt m 50 then ((229, 94, 228, 0)) else (bif Nat.blt m 51 then ((338, 94, 336, 337)) else ((729, 94, 727, 728))))) else (bif Nat.blt m 54 then (bif Nat.blt m 53 then ((578, 94, 576, 577)) else ((456, 98, 455, 0))) else (bif Nat.blt m 55 then ((1316, 98, 1314, 1315)) else (bif Nat.blt m 56 then ((1330, 98, 1329, 26)) else ((1339, 98, 1338, 27))))))) else (bif Nat.blt m 66 then (bif Nat.blt m 61 then (bif Nat.blt m 59 then (bif Nat.blt m 58 then ((1321, 98, 1320, 25)) else ((1335, 98, 1334, 0))) else (bif Nat.blt m 60 then ((1343, 98, 1342, 28)) else ((1346, 98, 1345, 0)))) else (bif Nat.blt m 63 then (bif Nat.blt m 62 then ((426, 97, 425, 0)) else ((810, 97, 808, 809))) else (bif Nat.blt m 64 then ((824, 97, 823, 20)) else (bif Nat.blt m 65 then ((815, 97, 814, 19)) else ((806, 97, 804, 805)))))) else (bif Nat.blt m 71 then (bif Nat.blt m 68 then (bif Nat.blt m 67 then ((794, 97, 792, 793)) else ((798, 97, 797, 18))) else (bif Nat.blt m 69 then ((191, 93, 190, 0)) else (bif Nat.blt m 70 then ((329, 93, 327, 328)) else ((623, 93, 621, 622))))) else (bif Nat.blt m 73 then (bif Nat.blt m 72 then ((635, 93, 633, 634)) else ((1215, 93, 1213, 1214))) else (bif Nat.blt m 74 then ((572, 93, 570, 571)) else (bif Nat.blt m 75 then ((393, 96, 392, 0)) else ((746, 96, 744, 745))))))))) else (bif Nat.blt m 114 then (bif Nat.blt m 95 then (bif Nat.blt m 85 then (bif Nat.blt m 80 then (bif Nat.blt m 78 then (bif Nat.blt m 77 then ((759, 96, 758, 15)) else ((751, 96, 750, 0))) else (bif Nat.blt m 79 then ((755, 96, 754, 14)) else ((767, 96, 766, 17)))) else (bif Nat.blt m 82 then (bif Nat.blt m 81 then ((763, 96, 762, 16)) else ((114, 87, 113, 0))) else (bif Nat.blt m 83 then ((841, 87, 839, 840)) else (bif Nat.blt m 84 then ((958, 87, 956, 957)) else ((969, 87, 967, 968)))))) else (bif Nat.blt m 90 then (bif Nat.blt m 87 then (bif Nat.blt m 86 then ((992, 87, 990, 991)) else ((1004, 87, 1002, 1003))) else (bif Nat.blt m 88 then ((525, 87, 523, 524)) else (bif Nat.blt m 89 then ((1012, 87, 1010, 1011)) else ((1025, 87, 1023, 1024))))) else (bif Nat.blt m 92 then (bif Nat.blt m 91 then ((1037, 87, 1035, 1036)) else ((1049, 87, 1047, 1048))) else (bif Nat.blt m 93 then ((586, 87, 584, 585)) else (bif Nat.blt m 94 then ((1073, 87, 1071, 1072)) else ((1085, 87, 1083, 1084))))))) else (bif Nat.blt m 104 then (bif Nat.blt m 99 then (bif Nat.blt m 97 then (bif Nat.blt m 96 then ((1092, 87, 1090, 1091)) else ((1110, 87, 1108, 1109))) else (bif Nat.blt m 98 then ((1117, 87, 1115, 1116)) else ((738, 87, 736, 737)))) else (bif Nat.blt m 101 then (bif Nat.blt m 100 then ((742, 87, 740, 741)) else ((1125, 87, 1123, 1124))) else (bif Nat.blt m 102 then ((771, 87, 769, 770)) else (bif Nat.blt m 103 then ((775, 87, 773, 774)) else ((1136, 87, 1134, 1135)))))) else (bif Nat.blt m 109 then (bif Nat.blt m 106 then (bif Nat.blt m 105 then ((1147, 87, 1145, 1146)) else ((1154, 87, 1152, 1153))) else (bif Nat.blt m 107 then ((1161, 87, 1159, 1160)) else (bif Nat.blt m 108 then ((1169, 87, 1167, 1168)) else ((1177, 87, 1175, 1176))))) else (bif Nat.blt m 111 then (bif Nat.blt m 110 then ((1186, 87, 1184, 1185)) else ((1197, 87, 1195, 1196))) else (bif Nat.blt m 112 then ((1204, 87, 1202, 1203)) else (bif Nat.blt m 113 then ((1211, 87, 1209, 1210)) else ((1223, 87, 1221, 1222)))))))) else (bif Nat.blt m 133 then (bif Nat.blt m 123 then (bif Nat.blt m 118 then (bif Nat.blt m 116 then (bif Nat.blt m 115 then ((1230, 87, 1228, 1229)) else ((1242, 87, 1240, 1241))) else (bif Nat.blt m 117 then ((1249, 87, 1247, 1248)) else ((1257, 87, 1255, 1256)))) else (bif Nat.blt m 120 then (bif Nat.blt m 119 then ((1264, 87, 1262, 1263)) else ((1275, 87, 1273, 1274))) else (bif Nat.blt m 121 then ((1283, 87, 1281, 1282)) else (bif Nat.blt m 122 then ((1290, 87, 1288, 1289)) else ((1298, 87, 1296, 1297)))))) else (bif Nat.blt m 128 then (bif Nat.blt m 125 then (bif Nat.blt m 124 then ((1305, 87, 1303, 1304)) else ((1312, 87, 1310, 1311))) else (bif Nat.blt m 126 then ((1354, 87, 1352, 1353)) else (bif Nat.blt m 127 then ((1361, 87, 1359, 1360)) else ((779, 87, 777, 778))))) else (bif Nat.blt m 130 then (bif Nat.blt m 129 then ((790, 87, 788, 789)) else ((844, 87, 843, 0))) else (bif Nat.blt m 131 then ((1015, 87, 1014, 0)) else (bif Nat.blt m 132 then ((1140, 87, 1139, 23)) else ((911, 87, 910, 0))))))) else (bif Nat.blt m 142 then (bif Nat.blt m 137 then (bif Nat.blt m 135 then (bif Nat.blt m 134 then ((1234, 87, 1233, 24)) else ((1267, 87, 1266, 0))) else (bif Nat.blt m 136 then ((973, 87, 972, 22)) else ((529, 87, 528, 0)))) else (bif Nat.blt m 139 then (bif Nat.blt m 138 then ((537, 87, 536, 1)) else ((995, 87, 994, 0))) else (bif Nat.blt m 140 then ((612, 87, 611, 0)) else (bif Nat.blt m 141 then ((601, 87, 600, 0)) else ((594, 87, 593, 0)))))) else (bif Nat.blt m 147 then (bif Nat.blt m 144 then (bif Nat.blt m 143 then ((619, 87, 618, 0)) else ((638, 87, 637, 0))) else (bif Nat.blt m 145 then ((626, 87, 625, 0)) else (bif Nat.blt m 146 then ((609, 87, 608, 0)) else ((548, 87, 547, 0))))) else (bif Nat.blt m 149 then (bif Nat.blt m 148 then ((568, 87, 567, 0)) else ((688, 87, 687, 0))) else (bif Nat.blt m 150 then ((630, 87, 629, 0)) else (bif Nat.blt m 151 then ((1366, 99, 1365, 0)) else ((1501, 99, 1499, 1500)))))))))) else (bif Nat.blt m 228 then (bif Nat.blt m 190 then (bif Nat.blt m 171 then (bif Nat.blt m 161 then (bif Nat.blt m 156 then (bif Nat.blt m 154 then (bif Nat.blt m 153 then ((1512, 99, 1511, 33)) else ((1508, 99, 1507, 0))) else (bif Nat.blt m 155 then ((1696, 99, 1695, 71)) else ((1520, 99, 1519, 35)))) else (bif Nat.blt m 158 then (bif Nat.blt m 157 then ((1379, 99, 1378, 30)) else ((1541, 99, 1540, 39))) else (bif Nat.blt m 159 then ((1516, 99, 1515, 34)) else (bif Nat.blt m 160 then ((1573, 99, 1572, 46)) else ((1585, 99, 1584, 49)))))) else (bif Nat.blt m 166 then (bif Nat.blt m 163 then (bif Nat.blt m 162 then ((1634, 99, 1633, 61)) else ((1390, 99, 1389, 32))) else (bif Nat.blt m 164 then ((1382, 99, 1381, 0)) else (bif Nat.blt m 165 then ((1386, 99, 1385, 31)) else ((1375, 99, 1374, 29))))) else (bif Nat.blt m 168 then (bif Nat.blt m 167 then ((1622, 99, 1621, 58)) else ((1642, 99, 1641, 63))) else (bif Nat.blt m 169 then ((1597, 99, 1596, 52)) else (bif Nat.blt m 170 then ((1593, 99, 1592, 51)) else ((1613, 99, 1612, 56))))))) else (bif Nat.blt m 180 then (bif Nat.blt m 175 then (bif Nat.blt m 173 then (bif Nat.blt m 172 then ((1618, 99, 1617, 57)) else ((1609, 99, 1608, 55))) else (bif Nat.blt m 174 then ((1605, 99, 1604, 54)) else ((1601, 99, 1600, 53)))) else (bif Nat.blt m 177 then (bif Nat.blt m 176 then ((1589, 99, 1588, 50)) else ((1545, 99, 1544, 40))) else (bif Nat.blt m 178 then ((1630, 99, 1629, 60)) else (bif Nat.blt m 179 then ((1626, 99, 1625, 59)) else ((1569, 99, 1568, 45)))))) else (bif Nat.blt m 185 then (bif Nat.blt m 182 then (bif Nat.blt m 181 then ((1581, 99, 1580, 48)) else ((1638, 99, 1637, 62))) else (bif Nat.blt m 183 then ((1565, 99, 1564, 44)) else (bif Nat.blt m 184 then ((1577, 99, 1576, 47)) else ((1561, 99, 1560, 43))))) else (bif Nat.blt m 187 then (bif Nat.blt m 186 then ((1557, 99, 1556, 42)) else ((1553, 99, 1552, 41))) else (bif Nat.blt m 188 then ((1537, 99, 1536, 38)) else (bif Nat.blt m 189 then ((1528, 99, 1527, 37)) else ((1524, 99, 1523, 36)))))))) else (bif Nat.blt m 209 then (bif Nat.blt m 199 then (bif Nat.blt m 194 then (bif Nat.blt m 192 then (bif Nat.blt m 191 then ((1505, 99, 1503, 1504)) else ((1533, 99, 1531, 1532))) else (bif Nat.blt m 193 then ((1549, 99, 1547, 1548)) else ((1650, 99, 1649, 64)))) else (bif Nat.blt m 196 then (bif Nat.blt m 195 then ((1646, 99, 1644, 1645)) else ((1656, 99, 1654, 1655))) else (bif Nat.blt m 197 then ((1688, 99, 1686, 1687)) else (bif Nat.blt m 198 then ((1692, 99, 1690, 1691)) else ((1700, 99, 1698, 1699)))))) else (bif Nat.blt m 204 then (bif Nat.blt m 201 then (bif Nat.blt m 200 then ((1704, 99, 1702, 1703)) else ((1708, 99, 1706, 1707))) else (bif Nat.blt m 202 then ((1712, 99, 1710, 1711)) else (bif Nat.blt m 203 then ((1716, 99, 1714, 1715)) else ((1720, 99, 1718, 1719))))) else (bif Nat.blt m 206 then (bif Nat.blt m 205 then ((1728, 99, 1727, 72)) else ((1724, 99, 1722, 1723))) else (bif Nat.blt m 207 then ((1732, 99, 1730, 1731)) else (bif Nat.blt m 208 then ((1668, 99, 1667, 67)) else ((1671, 99, 1670, 0))))))) else (bif Nat.blt m 218 then (bif Nat.blt m 213 then (bif Nat.blt m 211 then (bif Nat.blt m 210 then ((1679, 99, 1678, 69)) else ((1664, 99, 1663, 66))) else (bif Nat.blt m 212 then ((1675, 99, 1674, 68)) else ((1660, 99, 1659, 65)))) else (bif Nat.blt m 215 then (bif Nat.blt m 214 then ((1684, 99, 1683, 70)) else ((1736, 99, 1734, 1735))) else (bif Nat.blt m 216 then ((1740, 99, 1738, 1739)) else (bif Nat.blt m 217 then ((1744, 99, 1742, 1743)) else ((1748, 99, 1746, 1747)))))) else (bif Nat.blt m 223 then (bif Nat.blt m 220 then (bif Nat.blt m 219 then ((1752, 99, 1750, 1751)) else ((1756, 99, 1754, 1755))) else (bif Nat.blt m 221 then ((1764, 99, 1763, 73)) else (bif Nat.blt m 222 then ((1760, 99, 1758, 1759)) else ((1772, 99, 1771, 74))))) else (bif Nat.blt m 225 then (bif Nat.blt m 224 then ((1768, 99, 1766, 1767)) else ((1776, 99, 1774, 1775))) else (bif Nat.blt m 226 then ((1780, 99, 1778, 1779)) else (bif Nat.blt m 227 then ((1784, 99, 1782, 1783)) else ((1788, 99, 1786, 1787))))))))) else (bif Nat.blt m 266 then (bif Nat.blt m 247 then (bif Nat.blt m 237 then (bif Nat.blt m 232 then (bif Nat.blt m 230 then (bif Nat.blt m 229 then ((1792, 99, 1790, 1791)) else ((1796, 99, 1794, 1795))) else (bif Nat.blt m 231 then ((1800, 99, 1798, 1799)) else ((1804, 99, 1802, 1803)))) else (bif Nat.blt m 234 then (bif Nat.blt m 233 then ((1808, 99, 1806, 1807)) else ((1812, 99, 1810, 1811))) else (bif Nat.blt m 235 then ((1816, 99, 1814, 1815)) else (bif Nat.blt m 236 then ((1820, 99, 1818, 1819)) else ((1852, 99, 1851, 80)))))) else (bif Nat.blt m 242 then (bif Nat.blt m 239 then (bif Nat.blt m 238 then ((1848, 99, 1847, 79)) else ((1844, 99, 1843, 78))) else (bif Nat.blt m 240 then ((1828, 99, 1827, 75)) else (bif Nat.blt m 241 then ((1840, 99, 1839, 77)) else ((1824, 99, 1822, 1823))))) else (bif Nat.blt m 244 then (bif Nat.blt m 243 then ((1836, 99, 1835, 76)) else ((1832, 99, 1830, 1831))) else (bif Nat.blt m 245 then ((1856, 99, 1854, 1855)) else (bif Nat.blt m 246 then ((1860, 99, 1858, 1859)) else ((1872, 99, 1871, 82))))))) else (bif Nat.blt m 256 then (bif Nat.blt m 251 then (bif Nat.blt m 249 then (bif Nat.blt m 248 then ((1868, 99, 1867, 81)) else ((1864, 99, 1862, 1863))) else (bif Nat.blt m 250 then ((1876, 99, 1874, 1875)) else ((1880, 99, 1878, 1879)))) else (bif Nat.blt m 253 then (bif Nat.blt m 252 then ((1892, 99, 1891, 84)) else ((1896, 99, 1895, 85))) else (bif Nat.blt m 254 then ((1888, 99, 1887, 83)) else (bif Nat.blt m 255 then ((1884, 99, 1882, 1883)) else ((1900, 99, 1898, 1899)))))) else (bif Nat.blt m 261 then (bif Nat.blt m 258 then (bif Nat.blt m 257 then ((1904, 99, 1902, 1903)) else ((1908, 99, 1906, 1907))) else (bif Nat.blt m 259 then ((1912, 99, 1910, 1911)) else (bif Nat.blt m 260 then ((709, 108, 708, 0)) else ((695, 107, 694, 0))))) else (bif Nat.blt m 263 then (bif Nat.blt m 262 then ((702, 107, 701, 0)) else ((985, 107, 984, 0))) else (bif Nat.blt m 264 then ((334, 90, 333, 0)) else (bif Nat.blt m 265 then ((132, 90, 131, 0)) else ((834, 86, 833, 0)))))))) else (bif Nat.blt m 285 then (bif Nat.blt m 275 then (bif Nat.blt m 270 then (bif Nat.blt m 268 then (bif Nat.blt m 267 then ((954, 86, 953, 0)) else ((965, 86, 964, 0))) else (bif Nat.blt m 269 then ((988, 86, 987, 0)) else ((1000, 86, 999, 0)))) else (bif Nat.blt m 272 then (bif Nat.blt m 271 then ((1008, 86, 1007, 0)) else ((1021, 86, 1020, 0))) else (bif Nat.blt m 273 then ((1033, 86, 1032, 0)) else (bif Nat.blt m 274 then ((1044, 86, 1043, 0)) else ((1069, 86, 1068, 0)))))) else (bif Nat.blt m 280 then (bif Nat.blt m 277 then (bif Nat.blt m 276 then ((1081, 86, 1080, 0)) else ((1088, 86, 1087, 0))) else (bif Nat.blt m 278 then ((1106, 86, 1105, 0)) else (bif Nat.blt m 279 then ((1113, 86, 1112, 0)) else ((1121, 86, 1120, 0))))) else (bif Nat.blt m 282 then (bif Nat.blt m 281 then ((1132, 86, 1131, 0)) else ((1143, 86, 1142, 0))) else (bif Nat.blt m 283 then ((1150, 86, 1149, 0)) else (bif Nat.blt m 284 then ((1157, 86, 1156, 0)) else ((1165, 86, 1164, 0))))))) else (bif Nat.blt m 295 then (bif Nat.blt m 290 then (bif Nat.blt m 287 then (bif Nat.blt m 286 then ((1173, 86, 1172, 0)) else ((1182, 86, 1181, 0))) else (bif Nat.blt m 288 then ((1193, 86, 1192, 0)) else (bif Nat.blt m 289 then ((1200, 86, 1199, 0)) else ((1207, 86, 1206, 0))))) else (bif Nat.blt m 292 then (bif Nat.blt m 291 then ((1219, 86, 1218, 0)) else ((1226, 86, 1225, 0))) else (bif Nat.blt m 293 then ((1238, 86, 1237, 0)) else (bif Nat.blt m 294 then ((1245, 86, 1244, 0)) else ((1253, 86, 1252, 0)))))) else (bif Nat.blt m 300 then (bif Nat.blt m 297 then (bif Nat.blt m 296 then ((1260, 86, 1259, 0)) else ((1271, 86, 1270, 0))) else (bif Nat.blt m 298 then ((1279, 86, 1278, 0)) else (bif Nat.blt m 299 then ((1286, 86, 1285, 0)) else ((1294, 86, 1293, 0))))) else (bif Nat.blt m 302 then (bif Nat.blt m 301 then ((1301, 86, 1300, 0)) else ((1308, 86, 1307, 0))) else (bif Nat.blt m 303 then ((1350, 86, 1349, 0)) else (bif Nat.blt m 304 then ((1357, 86, 1356, 0)) else ((0, 86, 0, 0))))))))))
def lt_cw (m : Nat) : Cond := match lt_hh m with
  | [] => .code (lt_y m) (lt_by m) (lt_inf m).2.2.1 (lt_ret m)
  | h :: r => .codeWith (lt_y m) (lt_by m) (lt_inf m).2.2.1 (lt_ret m) (h :: r)
def lt_sw (m : Nat) : Cond := bif (lt_inf m).2.2.2.1 then .static (lt_y m) else .instanceMethod (lt_y m)
/-- how many arguments a call takes from the stack, the receiver apart -/
def lt_np (m : Nat) : Option Nat := (parseMethodDescriptor (lt_y m).desc).map fun d => d.parameters.length
def lt_rk : Option FieldType → Nat
  | none => 0
  | some .int => 1
  | some .long => 2
  | some .double => 4
  | some .float => 5
  | some .boolean => 6
  | some (.object _) => 3
  | some (.array _) => 3
  | _ => 7
def lt_gw (i : Nat) (w : Cond) : Bool := decide (lw_tbl[i]? = some w) && goodWord w
theorem lt_gw_in {i : Nat} {w : Cond} (h : lt_gw i w = true) : w ∈ lw_good := by
  unfold lt_gw at h
  rw [Bool.and_eq_true] at h
  exact lw_in i (of_decide_eq_true h.1) h.2
def lt_mok (m : Nat) : Bool :=
  lt_gw (lt_pl m).1 (lt_cw m) && (lt_gw (lt_pl m).2.1 (.initialized (lt_y m).cls) && (lt_gw (lt_pl m).2.2.1 (lt_sw m) &&
  ((decide ((lt_y m).cls ≠ "java/lang/invoke/MethodHandle") && decide ((lt_y m).cls ≠ "java/lang/invoke/VarHandle")) && ((plainName (lt_y m).cls || decide ((lt_y m).cls = "java/lang/Math")) && (decide ((lt_y m).cls = lt_cn (lt_inf m).1) &&
  (Nat.beq (lt_rk (lt_ret m)) (lt_inf m).2.1 && (lt_np m).isSome && (decide (lt_ini m = decide ((lt_y m).name = "<init>")) && (bif lt_ini m then decide (lt_ret m = none) else true) && (Nat.ble (lt_inf m).2.2.1 20 && (bif (lt_inf m).2.2.2.1 || lt_ini m then true else lt_gw (lt_pl m).2.2.2 (.selects (lt_y m).cls (lt_y m) (lt_y m)))))))))))
theorem lt_mo0 : lt_mok 0 = true := by decide +kernel
theorem lt_mo1 : lt_mok 1 = true := by decide +kernel
theorem lt_mo2 : lt_mok 2 = true := by decide +kernel
theorem lt_mo3 : lt_mok 3 = true := by decide +kernel
theorem lt_mo4 : lt_mok 4 = true := by decide +kernel
theorem lt_mo5 : lt_mok 5 = true := by decide +kernel
theorem lt_mo6 : lt_mok 6 = true := by decide +kernel
theorem lt_mo7 : lt_mok 7 = true := by decide +kernel
theorem lt_mo8 : lt_mok 8 = true := by decide +kernel
theorem lt_mo9 : lt_mok 9 = true := by decide +kernel
theorem lt_mo10 : lt_mok 10 = true := by decide +kernel
theorem lt_mo11 : lt_mok 11 = true := by decide +kernel
theorem lt_mo12 : lt_mok 12 = true := by decide +kernel
theorem lt_mo13 : lt_mok 13 = true := by decide +kernel
theorem lt_mo14 : lt_mok 14 = true := by decide +kernel
theorem lt_mo15 : lt_mok 15 = true := by decide +kernel
theorem lt_mo16 : lt_mok 16 = true := by decide +kernel
theorem lt_mo17 : lt_mok 17 = true := by decide +kernel
theorem lt_mo18 : lt_mok 18 = true := by decide +kernel
theorem lt_mo19 : lt_mok 19 = true := by decide +kernel
theorem lt_mo20 : lt_mok 20 = true := by decide +kernel
theorem lt_mo21 : lt_mok 21 = true := by decide +kernel
theorem lt_mo22 : lt_mok 22 = true := by decide +kernel
theorem lt_mo23 : lt_mok 23 = true := by decide +kernel
theorem lt_mo24 : lt_mok 24 = true := by decide +kernel
theorem lt_mo25 : lt_mok 25 = true := by decide +kernel
theorem lt_mo26 : lt_mok 26 = true := by decide +kernel
theorem lt_mo27 : lt_mok 27 = true := by decide +kernel
theorem lt_mo28 : lt_mok 28 = true := by decide +kernel
theorem lt_mo29 : lt_mok 29 = true := by decide +kernel
theorem lt_mo30 : lt_mok 30 = true := by decide +kernel
theorem lt_mo31 : lt_mok 31 = true := by decide +kernel
theorem lt_mo32 : lt_mok 32 = true := by decide +kernel
theorem lt_mo33 : lt_mok 33 = true := by decide +kernel
theorem lt_mo34 : lt_mok 34 = true := by decide +kernel
theorem lt_mo35 : lt_mok 35 = true := by decide +kernel
theorem lt_mo36 : lt_mok 36 = true := by decide +kernel
theorem lt_mo37 : lt_mok 37 = true := by decide +kernel
theorem lt_mo38 : lt_mok 38 = true := by decide +kernel
theorem lt_mo39 : lt_mok 39 = true := by decide +kernel
theorem lt_mo40 : lt_mok 40 = true := by decide +kernel
theorem lt_mo41 : lt_mok 41 = true := by decide +kernel
theorem lt_mo42 : lt_mok 42 = true := by decide +kernel
theorem lt_mo43 : lt_mok 43 = true := by decide +kernel
theorem lt_mo44 : lt_mok 44 = true := by decide +kernel
theorem lt_mo45 : lt_mok 45 = true := by decide +kernel
theorem lt_mo46 : lt_mok 46 = true := by decide +kernel
theorem lt_mo47 : lt_mok 47 = true := by decide +kernel
theorem lt_mo48 : lt_mok 48 = true := by decide +kernel
theorem lt_mo49 : lt_mok 49 = true := by decide +kernel
theorem lt_mo50 : lt_mok 50 = true := by decide +kernel
theorem lt_mo51 : lt_mok 51 = true := by decide +kernel
theorem lt_mo52 : lt_mok 52 = true := by decide +kernel
theorem lt_mo53 : lt_mok 53 = true := by decide +kernel
theorem lt_mo54 : lt_mok 54 = true := by decide +kernel
theorem lt_mo55 : lt_mok 55 = true := by decide +kernel
theorem lt_mo56 : lt_mok 56 = true := by decide +kernel
theorem lt_mo57 : lt_mok 57 = true := by decide +kernel
theorem lt_mo58 : lt_mok 58 = true := by decide +kernel
theorem lt_mo59 : lt_mok 59 = true := by decide +kernel
theorem lt_mo60 : lt_mok 60 = true := by decide +kernel
theorem lt_mo61 : lt_mok 61 = true := by decide +kernel
theorem lt_mo62 : lt_mok 62 = true := by decide +kernel
theorem lt_mo63 : lt_mok 63 = true := by decide +kernel
theorem lt_mo64 : lt_mok 64 = true := by decide +kernel
theorem lt_mo65 : lt_mok 65 = true := by decide +kernel
theorem lt_mo66 : lt_mok 66 = true := by decide +kernel
theorem lt_mo67 : lt_mok 67 = true := by decide +kernel
theorem lt_mo68 : lt_mok 68 = true := by decide +kernel
theorem lt_mo69 : lt_mok 69 = true := by decide +kernel
theorem lt_mo70 : lt_mok 70 = true := by decide +kernel
theorem lt_mo71 : lt_mok 71 = true := by decide +kernel
theorem lt_mo72 : lt_mok 72 = true := by decide +kernel
theorem lt_mo73 : lt_mok 73 = true := by decide +kernel
theorem lt_mo74 : lt_mok 74 = true := by decide +kernel
theorem lt_mo75 : lt_mok 75 = true := by decide +kernel
theorem lt_mo76 : lt_mok 76 = true := by decide +kernel
theorem lt_mo77 : lt_mok 77 = true := by decide +kernel
theorem lt_mo78 : lt_mok 78 = true := by decide +kernel
theorem lt_mo79 : lt_mok 79 = true := by decide +kernel
theorem lt_mo80 : lt_mok 80 = true := by decide +kernel
theorem lt_mo81 : lt_mok 81 = true := by decide +kernel
theorem lt_mo82 : lt_mok 82 = true := by decide +kernel
theorem lt_mo83 : lt_mok 83 = true := by decide +kernel
theorem lt_mo84 : lt_mok 84 = true := by decide +kernel
theorem lt_mo85 : lt_mok 85 = true := by decide +kernel
theorem lt_mo86 : lt_mok 86 = true := by decide +kernel
theorem lt_mo87 : lt_mok 87 = true := by decide +kernel
theorem lt_mo88 : lt_mok 88 = true := by decide +kernel
theorem lt_mo89 : lt_mok 89 = true := by decide +kernel
theorem lt_mo90 : lt_mok 90 = true := by decide +kernel
theorem lt_mo91 : lt_mok 91 = true := by decide +kernel
theorem lt_mo92 : lt_mok 92 = true := by decide +kernel
theorem lt_mo93 : lt_mok 93 = true := by decide +kernel
theorem lt_mo94 : lt_mok 94 = true := by decide +kernel
theorem lt_mo95 : lt_mok 95 = true := by decide +kernel
theorem lt_mo96 : lt_mok 96 = true := by decide +kernel
theorem lt_mo97 : lt_mok 97 = true := by decide +kernel
theorem lt_mo98 : lt_mok 98 = true := by decide +kernel
theorem lt_mo99 : lt_mok 99 = true := by decide +kernel
theorem lt_mo100 : lt_mok 100 = true := by decide +kernel
theorem lt_mo101 : lt_mok 101 = true := by decide +kernel
theorem lt_mo102 : lt_mok 102 = true := by decide +kernel
theorem lt_mo103 : lt_mok 103 = true := by decide +kernel
theorem lt_mo104 : lt_mok 104 = true := by decide +kernel
theorem lt_mo105 : lt_mok 105 = true := by decide +kernel
theorem lt_mo106 : lt_mok 106 = true := by decide +kernel
theorem lt_mo107 : lt_mok 107 = true := by decide +kernel
theorem lt_mo108 : lt_mok 108 = true := by decide +kernel
theorem lt_mo109 : lt_mok 109 = true := by decide +kernel
theorem lt_mo110 : lt_mok 110 = true := by decide +kernel
theorem lt_mo111 : lt_mok 111 = true := by decide +kernel
theorem lt_mo112 : lt_mok 112 = true := by decide +kernel
theorem lt_mo113 : lt_mok 113 = true := by decide +kernel
theorem lt_mo114 : lt_mok 114 = true := by decide +kernel
theorem lt_mo115 : lt_mok 115 = true := by decide +kernel
theorem lt_mo116 : lt_mok 116 = true := by decide +kernel
theorem lt_mo117 : lt_mok 117 = true := by decide +kernel
theorem lt_mo118 : lt_mok 118 = true := by decide +kernel
theorem lt_mo119 : lt_mok 119 = true := by decide +kernel
theorem lt_mo120 : lt_mok 120 = true := by decide +kernel
theorem lt_mo121 : lt_mok 121 = true := by decide +kernel
theorem lt_mo122 : lt_mok 122 = true := by decide +kernel
theorem lt_mo123 : lt_mok 123 = true := by decide +kernel
theorem lt_mo124 : lt_mok 124 = true := by decide +kernel
theorem lt_mo125 : lt_mok 125 = true := by decide +kernel
theorem lt_mo126 : lt_mok 126 = true := by decide +kernel
theorem lt_mo127 : lt_mok 127 = true := by decide +kernel
theorem lt_mo128 : lt_mok 128 = true := by decide +kernel
theorem lt_mo129 : lt_mok 129 = true := by decide +kernel
theorem lt_mo130 : lt_mok 130 = true := by decide +kernel
theorem lt_mo131 : lt_mok 131 = true := by decide +kernel
theorem lt_mo132 : lt_mok 132 = true := by decide +kernel
theorem lt_mo133 : lt_mok 133 = true := by decide +kernel
theorem lt_mo134 : lt_mok 134 = true := by decide +kernel
theorem lt_mo135 : lt_mok 135 = true := by decide +kernel
theorem lt_mo136 : lt_mok 136 = true := by decide +kernel
theorem lt_mo137 : lt_mok 137 = true := by decide +kernel
theorem lt_mo138 : lt_mok 138 = true := by decide +kernel
theorem lt_mo139 : lt_mok 139 = true := by decide +kernel
theorem lt_mo140 : lt_mok 140 = true := by decide +kernel
theorem lt_mo141 : lt_mok 141 = true := by decide +kernel
theorem lt_mo142 : lt_mok 142 = true := by decide +kernel
theorem lt_mo143 : lt_mok 143 = true := by decide +kernel
theorem lt_mo144 : lt_mok 144 = true := by decide +kernel
theorem lt_mo145 : lt_mok 145 = true := by decide +kernel
theorem lt_mo146 : lt_mok 146 = true := by decide +kernel
theorem lt_mo147 : lt_mok 147 = true := by decide +kernel
theorem lt_mo148 : lt_mok 148 = true := by decide +kernel
theorem lt_mo149 : lt_mok 149 = true := by decide +kernel
theorem lt_mo150 : lt_mok 150 = true := by decide +kernel
theorem lt_mo151 : lt_mok 151 = true := by decide +kernel
theorem lt_mo152 : lt_mok 152 = true := by decide +kernel
theorem lt_mo153 : lt_mok 153 = true := by decide +kernel
theorem lt_mo154 : lt_mok 154 = true := by decide +kernel
theorem lt_mo155 : lt_mok 155 = true := by decide +kernel
theorem lt_mo156 : lt_mok 156 = true := by decide +kernel
theorem lt_mo157 : lt_mok 157 = true := by decide +kernel
theorem lt_mo158 : lt_mok 158 = true := by decide +kernel
theorem lt_mo159 : lt_mok 159 = true := by decide +kernel
theorem lt_mo160 : lt_mok 160 = true := by decide +kernel
theorem lt_mo161 : lt_mok 161 = true := by decide +kernel
theorem lt_mo162 : lt_mok 162 = true := by decide +kernel
theorem lt_mo163 : lt_mok 163 = true := by decide +kernel
theorem lt_mo164 : lt_mok 164 = true := by decide +kernel
theorem lt_mo165 : lt_mok 165 = true := by decide +kernel
theorem lt_mo166 : lt_mok 166 = true := by decide +kernel
theorem lt_mo167 : lt_mok 167 = true := by decide +kernel
theorem lt_mo168 : lt_mok 168 = true := by decide +kernel
theorem lt_mo169 : lt_mok 169 = true := by decide +kernel
theorem lt_mo170 : lt_mok 170 = true := by decide +kernel
theorem lt_mo171 : lt_mok 171 = true := by decide +kernel
theorem lt_mo172 : lt_mok 172 = true := by decide +kernel
theorem lt_mo173 : lt_mok 173 = true := by decide +kernel
theorem lt_mo174 : lt_mok 174 = true := by decide +kernel
theorem lt_mo175 : lt_mok 175 = true := by decide +kernel
theorem lt_mo176 : lt_mok 176 = true := by decide +kernel
theorem lt_mo177 : lt_mok 177 = true := by decide +kernel
theorem lt_mo178 : lt_mok 178 = true := by decide +kernel
theorem lt_mo179 : lt_mok 179 = true := by decide +kernel
theorem lt_mo180 : lt_mok 180 = true := by decide +kernel
theorem lt_mo181 : lt_mok 181 = true := by decide +kernel
theorem lt_mo182 : lt_mok 182 = true := by decide +kernel
theorem lt_mo183 : lt_mok 183 = true := by decide +kernel
theorem lt_mo184 : lt_mok 184 = true := by decide +kernel
theorem lt_mo185 : lt_mok 185 = true := by decide +kernel
theorem lt_mo186 : lt_mok 186 = true := by decide +kernel
theorem lt_mo187 : lt_mok 187 = true := by decide +kernel
theorem lt_mo188 : lt_mok 188 = true := by decide +kernel
theorem lt_mo189 : lt_mok 189 = true := by decide +kernel
theorem lt_mo190 : lt_mok 190 = true := by decide +kernel
theorem lt_mo191 : lt_mok 191 = true := by decide +kernel
theorem lt_mo192 : lt_mok 192 = true := by decide +kernel
theorem lt_mo193 : lt_mok 193 = true := by decide +kernel
theorem lt_mo194 : lt_mok 194 = true := by decide +kernel
theorem lt_mo195 : lt_mok 195 = true := by decide +kernel
theorem lt_mo196 : lt_mok 196 = true := by decide +kernel
theorem lt_mo197 : lt_mok 197 = true := by decide +kernel
theorem lt_mo198 : lt_mok 198 = true := by decide +kernel
theorem lt_mo199 : lt_mok 199 = true := by decide +kernel
theorem lt_mo200 : lt_mok 200 = true := by decide +kernel
theorem lt_mo201 : lt_mok 201 = true := by decide +kernel
theorem lt_mo202 : lt_mok 202 = true := by decide +kernel
theorem lt_mo203 : lt_mok 203 = true := by decide +kernel
theorem lt_mo204 : lt_mok 204 = true := by decide +kernel
theorem lt_mo205 : lt_mok 205 = true := by decide +kernel
theorem lt_mo206 : lt_mok 206 = true := by decide +kernel
theorem lt_mo207 : lt_mok 207 = true := by decide +kernel
theorem lt_mo208 : lt_mok 208 = true := by decide +kernel
theorem lt_mo209 : lt_mok 209 = true := by decide +kernel
theorem lt_mo210 : lt_mok 210 = true := by decide +kernel
theorem lt_mo211 : lt_mok 211 = true := by decide +kernel
theorem lt_mo212 : lt_mok 212 = true := by decide +kernel
theorem lt_mo213 : lt_mok 213 = true := by decide +kernel
theorem lt_mo214 : lt_mok 214 = true := by decide +kernel
theorem lt_mo215 : lt_mok 215 = true := by decide +kernel
theorem lt_mo216 : lt_mok 216 = true := by decide +kernel
theorem lt_mo217 : lt_mok 217 = true := by decide +kernel
theorem lt_mo218 : lt_mok 218 = true := by decide +kernel
theorem lt_mo219 : lt_mok 219 = true := by decide +kernel
theorem lt_mo220 : lt_mok 220 = true := by decide +kernel
theorem lt_mo221 : lt_mok 221 = true := by decide +kernel
theorem lt_mo222 : lt_mok 222 = true := by decide +kernel
theorem lt_mo223 : lt_mok 223 = true := by decide +kernel
theorem lt_mo224 : lt_mok 224 = true := by decide +kernel
theorem lt_mo225 : lt_mok 225 = true := by decide +kernel
theorem lt_mo226 : lt_mok 226 = true := by decide +kernel
theorem lt_mo227 : lt_mok 227 = true := by decide +kernel
theorem lt_mo228 : lt_mok 228 = true := by decide +kernel
theorem lt_mo229 : lt_mok 229 = true := by decide +kernel
theorem lt_mo230 : lt_mok 230 = true := by decide +kernel
theorem lt_mo231 : lt_mok 231 = true := by decide +kernel
theorem lt_mo232 : lt_mok 232 = true := by decide +kernel
theorem lt_mo233 : lt_mok 233 = true := by decide +kernel
theorem lt_mo234 : lt_mok 234 = true := by decide +kernel
theorem lt_mo235 : lt_mok 235 = true := by decide +kernel
theorem lt_mo236 : lt_mok 236 = true := by decide +kernel
theorem lt_mo237 : lt_mok 237 = true := by decide +kernel
theorem lt_mo238 : lt_mok 238 = true := by decide +kernel
theorem lt_mo239 : lt_mok 239 = true := by decide +kernel
theorem lt_mo240 : lt_mok 240 = true := by decide +kernel
theorem lt_mo241 : lt_mok 241 = true := by decide +kernel
theorem lt_mo242 : lt_mok 242 = true := by decide +kernel
theorem lt_mo243 : lt_mok 243 = true := by decide +kernel
theorem lt_mo244 : lt_mok 244 = true := by decide +kernel
theorem lt_mo245 : lt_mok 245 = true := by decide +kernel
theorem lt_mo246 : lt_mok 246 = true := by decide +kernel
theorem lt_mo247 : lt_mok 247 = true := by decide +kernel
theorem lt_mo248 : lt_mok 248 = true := by decide +kernel
theorem lt_mo249 : lt_mok 249 = true := by decide +kernel
theorem lt_mo250 : lt_mok 250 = true := by decide +kernel
theorem lt_mo251 : lt_mok 251 = true := by decide +kernel
theorem lt_mo252 : lt_mok 252 = true := by decide +kernel
theorem lt_mo253 : lt_mok 253 = true := by decide +kernel
theorem lt_mo254 : lt_mok 254 = true := by decide +kernel
theorem lt_mo255 : lt_mok 255 = true := by decide +kernel
theorem lt_mo256 : lt_mok 256 = true := by decide +kernel
theorem lt_mo257 : lt_mok 257 = true := by decide +kernel
theorem lt_mo258 : lt_mok 258 = true := by decide +kernel
theorem lt_mo259 : lt_mok 259 = true := by decide +kernel
theorem lt_mo260 : lt_mok 260 = true := by decide +kernel
theorem lt_mo261 : lt_mok 261 = true := by decide +kernel
theorem lt_mo262 : lt_mok 262 = true := by decide +kernel
theorem lt_mo263 : lt_mok 263 = true := by decide +kernel
theorem lt_mo264 : lt_mok 264 = true := by decide +kernel
theorem lt_mo265 : lt_mok 265 = true := by decide +kernel
theorem lt_mo266 : lt_mok 266 = true := by decide +kernel
theorem lt_mo267 : lt_mok 267 = true := by decide +kernel
theorem lt_mo268 : lt_mok 268 = true := by decide +kernel
theorem lt_mo269 : lt_mok 269 = true := by decide +kernel
theorem lt_mo270 : lt_mok 270 = true := by decide +kernel
theorem lt_mo271 : lt_mok 271 = true := by decide +kernel
theorem lt_mo272 : lt_mok 272 = true := by decide +kernel
theorem lt_mo273 : lt_mok 273 = true := by decide +kernel
theorem lt_mo274 : lt_mok 274 = true := by decide +kernel
theorem lt_mo275 : lt_mok 275 = true := by decide +kernel
theorem lt_mo276 : lt_mok 276 = true := by decide +kernel
theorem lt_mo277 : lt_mok 277 = true := by decide +kernel
theorem lt_mo278 : lt_mok 278 = true := by decide +kernel
theorem lt_mo279 : lt_mok 279 = true := by decide +kernel
theorem lt_mo280 : lt_mok 280 = true := by decide +kernel
theorem lt_mo281 : lt_mok 281 = true := by decide +kernel
theorem lt_mo282 : lt_mok 282 = true := by decide +kernel
theorem lt_mo283 : lt_mok 283 = true := by decide +kernel
theorem lt_mo284 : lt_mok 284 = true := by decide +kernel
theorem lt_mo285 : lt_mok 285 = true := by decide +kernel
theorem lt_mo286 : lt_mok 286 = true := by decide +kernel
theorem lt_mo287 : lt_mok 287 = true := by decide +kernel
theorem lt_mo288 : lt_mok 288 = true := by decide +kernel
theorem lt_mo289 : lt_mok 289 = true := by decide +kernel
theorem lt_mo290 : lt_mok 290 = true := by decide +kernel
theorem lt_mo291 : lt_mok 291 = true := by decide +kernel
theorem lt_mo292 : lt_mok 292 = true := by decide +kernel
theorem lt_mo293 : lt_mok 293 = true := by decide +kernel
theorem lt_mo294 : lt_mok 294 = true := by decide +kernel
theorem lt_mo295 : lt_mok 295 = true := by decide +kernel
theorem lt_mo296 : lt_mok 296 = true := by decide +kernel
theorem lt_mo297 : lt_mok 297 = true := by decide +kernel
theorem lt_mo298 : lt_mok 298 = true := by decide +kernel
theorem lt_mo299 : lt_mok 299 = true := by decide +kernel
theorem lt_mo300 : lt_mok 300 = true := by decide +kernel
theorem lt_mo301 : lt_mok 301 = true := by decide +kernel
theorem lt_mo302 : lt_mok 302 = true := by decide +kernel
theorem lt_mo303 : lt_mok 303 = true := by decide +kernel
theorem lt_mg0 : ∀ m ∈ [0, 1, 2, 3, 4, 5, 6, 7, 8, 9, 10, 11, 12, 13, 14, 15], lt_mok m = true := List.forall_mem_cons.mpr ⟨lt_mo0, List.forall_mem_cons.mpr ⟨lt_mo1, List.forall_mem_cons.mpr ⟨lt_mo2, List.forall_mem_cons.mpr ⟨lt_mo3, List.forall_mem_cons.mpr ⟨lt_mo4, List.forall_mem_cons.mpr ⟨lt_mo5, List.forall_mem_cons.mpr ⟨lt_mo6, List.forall_mem_cons.mpr ⟨lt_mo7, List.forall_mem_cons.mpr ⟨lt_mo8, List.forall_mem_cons.mpr ⟨lt_mo9, List.forall_mem_cons.mpr ⟨lt_mo10, List.forall_mem_cons.mpr ⟨lt_mo11, List.forall_mem_cons.mpr ⟨lt_mo12, List.forall_mem_cons.mpr ⟨lt_mo13, List.forall_mem_cons.mpr ⟨lt_mo14, List.forall_mem_cons.mpr ⟨lt_mo15, fun _ h => absurd h List.not_mem_nil⟩⟩⟩⟩⟩⟩⟩⟩⟩⟩⟩⟩⟩⟩⟩⟩
theorem lt_mg1 : ∀ m ∈ [16, 17, 18, 19, 20, 21, 22, 23, 24, 25, 26, 27, 28, 29, 30, 31], lt_mok m = true := List.forall_mem_cons.mpr ⟨lt_mo16, List.forall_mem_cons.mpr ⟨lt_mo17, List.forall_mem_cons.mpr ⟨lt_mo18, List.forall_mem_cons.mpr ⟨lt_mo19, List.forall_mem_cons.mpr ⟨lt_mo20, List.forall_mem_cons.mpr ⟨lt_mo21, List.forall_mem_cons.mpr ⟨lt_mo22, List.forall_mem_cons.mpr ⟨lt_mo23, List.forall_mem_cons.mpr ⟨lt_mo24, List.forall_mem_cons.mpr ⟨lt_mo25, List.forall_mem_cons.mpr ⟨lt_mo26, List.forall_mem_cons.mpr ⟨lt_mo27, List.forall_mem_cons.mpr ⟨lt_mo28, List.forall_mem_cons.mpr ⟨lt_mo29, List.forall_mem_cons.mpr ⟨lt_mo30, List.forall_mem_cons.mpr ⟨lt_mo31, fun _ h => absurd h List.not_mem_nil⟩⟩⟩⟩⟩⟩⟩⟩⟩⟩⟩⟩⟩⟩⟩⟩
theorem lt_mg2 : ∀ m ∈ [32, 33, 34, 35, 36, 37, 38, 39, 40, 41, 42, 43, 44, 45, 46, 47], lt_mok m = true := List.forall_mem_cons.mpr ⟨lt_mo32, List.forall_mem_cons.mpr ⟨lt_mo33, List.forall_mem_cons.mpr ⟨lt_mo34, List.forall_mem_cons.mpr ⟨lt_mo35, List.forall_mem_cons.mpr ⟨lt_mo36, List.forall_mem_cons.mpr ⟨lt_mo37, List.forall_mem_cons.mpr ⟨lt_mo38, List.forall_mem_cons.mpr ⟨lt_mo39, List.forall_mem_cons.mpr ⟨lt_mo40, List.forall_mem_cons.mpr ⟨lt_mo41, List.forall_mem_cons.mpr ⟨lt_mo42, List.forall_mem_cons.mpr ⟨lt_mo43, List.forall_mem_cons.mpr ⟨lt_mo44, List.forall_mem_cons.mpr ⟨lt_mo45, List.forall_mem_cons.mpr ⟨lt_mo46, List.forall_mem_cons.mpr ⟨lt_mo47, fun _ h => absurd h List.not_mem_nil⟩⟩⟩⟩⟩⟩⟩⟩⟩⟩⟩⟩⟩⟩⟩⟩
theorem lt_mg3 : ∀ m ∈ [48, 49, 50, 51, 52, 53, 54, 55, 56, 57, 58, 59, 60, 61, 62, 63], lt_mok m = true := List.forall_mem_cons.mpr ⟨lt_mo48, List.forall_mem_cons.mpr ⟨lt_mo49, List.forall_mem_cons.mpr ⟨lt_mo50, List.forall_mem_cons.mpr ⟨lt_mo51, List.forall_mem_cons.mpr ⟨lt_mo52, List.forall_mem_cons.mpr ⟨lt_mo53, List.forall_mem_cons.mpr ⟨lt_mo54, List.forall_mem_cons.mpr ⟨lt_mo55, List.forall_mem_cons.mpr ⟨lt_mo56, List.forall_mem_cons.mpr ⟨lt_mo57, List.forall_mem_cons.mpr ⟨lt_mo58, List.forall_mem_cons.mpr ⟨lt_mo59, List.forall_mem_cons.mpr ⟨lt_mo60, List.forall_mem_cons.mpr ⟨lt_mo61, List.forall_mem_cons.mpr ⟨lt_mo62, List.forall_mem_cons.mpr ⟨lt_mo63, fun _ h => absurd h List.not_mem_nil⟩⟩⟩⟩⟩⟩⟩⟩⟩⟩⟩⟩⟩⟩⟩⟩
theorem lt_mg4 : ∀ m ∈ [64, 65, 66, 67, 68, 69, 70, 71, 72, 73, 74, 75, 76, 77, 78, 79], lt_mok m = true := List.forall_mem_cons.mpr ⟨lt_mo64, List.forall_mem_cons.mpr ⟨lt_mo65, List.forall_mem_cons.mpr ⟨lt_mo66, List.forall_mem_cons.mpr ⟨lt_mo67, List.forall_mem_cons.mpr ⟨lt_mo68, List.forall_mem_cons.mpr ⟨lt_mo69, List.forall_mem_cons.mpr ⟨lt_mo70, List.forall_mem_cons.mpr ⟨lt_mo71, List.forall_mem_cons.mpr ⟨lt_mo72, List.forall_mem_cons.mpr ⟨lt_mo73, List.forall_mem_cons.mpr ⟨lt_mo74, List.forall_mem_cons.mpr ⟨lt_mo75, List.forall_mem_cons.mpr ⟨lt_mo76, List.forall_mem_cons.mpr ⟨lt_mo77, List.forall_mem_cons.mpr ⟨lt_mo78, List.forall_mem_cons.mpr ⟨lt_mo79, fun _ h => absurd h List.not_mem_nil⟩⟩⟩⟩⟩⟩⟩⟩⟩⟩⟩⟩⟩⟩⟩⟩
theorem lt_mg5 : ∀ m ∈ [80, 81, 82, 83, 84, 85, 86, 87, 88, 89, 90, 91, 92, 93, 94, 95], lt_mok m = true := List.forall_mem_cons.mpr ⟨lt_mo80, List.forall_mem_cons.mpr ⟨lt_mo81, List.forall_mem_cons.mpr ⟨lt_mo82, List.forall_mem_cons.mpr ⟨lt_mo83, List.forall_mem_cons.mpr ⟨lt_mo84, List.forall_mem_cons.mpr ⟨lt_mo85, List.forall_mem_cons.mpr ⟨lt_mo86, List.forall_mem_cons.mpr ⟨lt_mo87, List.forall_mem_cons.mpr ⟨lt_mo88, List.forall_mem_cons.mpr ⟨lt_mo89, List.forall_mem_cons.mpr ⟨lt_mo90, List.forall_mem_cons.mpr ⟨lt_mo91, List.forall_mem_cons.mpr ⟨lt_mo92, List.forall_mem_cons.mpr ⟨lt_mo93, List.forall_mem_cons.mpr ⟨lt_mo94, List.forall_mem_cons.mpr ⟨lt_mo95, fun _ h => absurd h List.not_mem_nil⟩⟩⟩⟩⟩⟩⟩⟩⟩⟩⟩⟩⟩⟩⟩⟩
theorem lt_mg6 : ∀ m ∈ [96, 97, 98, 99, 100, 101, 102, 103, 104, 105, 106, 107, 108, 109, 110, 111], lt_mok m = true := List.forall_mem_cons.mpr ⟨lt_mo96, List.forall_mem_cons.mpr ⟨lt_mo97, List.forall_mem_cons.mpr ⟨lt_mo98, List.forall_mem_cons.mpr ⟨lt_mo99, List.forall_mem_cons.mpr ⟨lt_mo100, List.forall_mem_cons.mpr ⟨lt_mo101, List.forall_mem_cons.mpr ⟨lt_mo102, List.forall_mem_cons.mpr ⟨lt_mo103, List.forall_mem_cons.mpr ⟨lt_mo104, List.forall_mem_cons.mpr ⟨lt_mo105, List.forall_mem_cons.mpr ⟨lt_mo106, List.forall_mem_cons.mpr ⟨lt_mo107, List.forall_mem_cons.mpr ⟨lt_mo108, List.forall_mem_cons.mpr ⟨lt_mo109, List.forall_mem_cons.mpr ⟨lt_mo110, List.forall_mem_cons.mpr ⟨lt_mo111, fun _ h => absurd h List.not_mem_nil⟩⟩⟩⟩⟩⟩⟩⟩⟩⟩⟩⟩⟩⟩⟩⟩
theorem lt_mg7 : ∀ m ∈ [112, 113, 114, 115, 116, 117, 118, 119, 120, 121, 122, 123, 124, 125, 126, 127], lt_mok m = true := List.forall_mem_cons.mpr ⟨lt_mo112, List.forall_mem_cons.mpr ⟨lt_mo113, List.forall_mem_cons.mpr ⟨lt_mo114, List.forall_mem_cons.mpr ⟨lt_mo115, List.forall_mem_cons.mpr ⟨lt_mo116, List.forall_mem_cons.mpr ⟨lt_mo117, List.forall_mem_cons.mpr ⟨lt_mo118, List.forall_mem_cons.mpr ⟨lt_mo119, List.forall_mem_cons.mpr ⟨lt_mo120, List.forall_mem_cons.mpr ⟨lt_mo121, List.forall_mem_cons.mpr ⟨lt_mo122, List.forall_mem_cons.mpr ⟨lt_mo123, List.forall_mem_cons.mpr ⟨lt_mo124, List.forall_mem_cons.mpr ⟨lt_mo125, List.forall_mem_cons.mpr ⟨lt_mo126, List.forall_mem_cons.mpr ⟨lt_mo127, fun _ h => absurd h List.not_mem_nil⟩⟩⟩⟩⟩⟩⟩⟩⟩⟩⟩⟩⟩⟩⟩⟩
theorem lt_mg8 : ∀ m ∈ [128, 129, 130, 131, 132, 133, 134, 135, 136, 137, 138, 139, 140, 141, 142, 143], lt_mok m = true := List.forall_mem_cons.mpr ⟨lt_mo128, List.forall_mem_cons.mpr ⟨lt_mo129, List.forall_mem_cons.mpr ⟨lt_mo130, List.forall_mem_cons.mpr ⟨lt_mo131, List.forall_mem_cons.mpr ⟨lt_mo132, List.forall_mem_cons.mpr ⟨lt_mo133, List.forall_mem_cons.mpr ⟨lt_mo134, List.forall_mem_cons.mpr ⟨lt_mo135, List.forall_mem_cons.mpr ⟨lt_mo136, List.forall_mem_cons.mpr ⟨lt_mo137, List.forall_mem_cons.mpr ⟨lt_mo138, List.forall_mem_cons.mpr ⟨lt_mo139, List.forall_mem_cons.mpr ⟨lt_mo140, List.forall_mem_cons.mpr ⟨lt_mo141, List.forall_mem_cons.mpr ⟨lt_mo142, List.forall_mem_cons.mpr ⟨lt_mo143, fun _ h => absurd h List.not_mem_nil⟩⟩⟩⟩⟩⟩⟩⟩⟩⟩⟩⟩⟩⟩⟩⟩
theorem lt_mg9 : ∀ m ∈ [144, 145, 146, 147, 148, 149, 150, 151, 152, 153, 154, 155, 156, 157, 158, 159], lt_mok m = true := List.forall_mem_cons.mpr ⟨lt_mo144, List.forall_mem_cons.mpr ⟨lt_mo145, List.forall_mem_cons.mpr ⟨lt_mo146, List.forall_mem_cons.mpr ⟨lt_mo147, List.forall_mem_cons.mpr ⟨lt_mo148, List.forall_mem_cons.mpr ⟨lt_mo149, List.forall_mem_cons.mpr ⟨lt_mo150, List.forall_mem_cons.mpr ⟨lt_mo151, List.forall_mem_cons.mpr ⟨lt_mo152, List.forall_mem_cons.mpr ⟨lt_mo153, List.forall_mem_cons.mpr ⟨lt_mo154, List.forall_mem_cons.mpr ⟨lt_mo155, List.forall_mem_cons.mpr ⟨lt_mo156, List.forall_mem_cons.mpr ⟨lt_mo157, List.forall_mem_cons.mpr ⟨lt_mo158, List.forall_mem_cons.mpr ⟨lt_mo159, fun _ h => absurd h List.not_mem_nil⟩⟩⟩⟩⟩⟩⟩⟩⟩⟩⟩⟩⟩⟩⟩⟩
theorem lt_mg10 : ∀ m ∈ [160, 161, 162, 163, 164, 165, 166, 167, 168, 169, 170, 171, 172, 173, 174, 175], lt_mok m = true := List.forall_mem_cons.mpr ⟨lt_mo160, List.forall_mem_cons.mpr ⟨lt_mo161, List.forall_mem_cons.mpr ⟨lt_mo162, List.forall_mem_cons.mpr ⟨lt_mo163, List.forall_mem_cons.mpr ⟨lt_mo164, List.forall_mem_cons.mpr ⟨lt_mo165, List.forall_mem_cons.mpr ⟨lt_mo166, List.forall_mem_cons.mpr ⟨lt_mo167, List.forall_mem_cons.mpr ⟨lt_mo168, List.forall_mem_cons.mpr ⟨lt_mo169, List.forall_mem_cons.mpr ⟨lt_mo170, List.forall_mem_cons.mpr ⟨lt_mo171, List.forall_mem_cons.mpr ⟨lt_mo172, List.forall_mem_cons.mpr ⟨lt_mo173, List.forall_mem_cons.mpr ⟨lt_mo174, List.forall_mem_cons.mpr ⟨lt_mo175, fun _ h => absurd h List.not_mem_nil⟩⟩⟩⟩⟩⟩⟩⟩⟩⟩⟩⟩⟩⟩⟩⟩
theorem lt_mg11 : ∀ m ∈ [176, 177, 178, 179, 180, 181, 182, 183, 184, 185, 186, 187, 188, 189, 190, 191], lt_mok m = true := List.forall_mem_cons.mpr ⟨lt_mo176, List.forall_mem_cons.mpr ⟨lt_mo177, List.forall_mem_cons.mpr ⟨lt_mo178, List.forall_mem_cons.mpr ⟨lt_mo179, List.forall_mem_cons.mpr ⟨lt_mo180, List.forall_mem_cons.mpr ⟨lt_mo181, List.forall_mem_cons.mpr ⟨lt_mo182, List.forall_mem_cons.mpr ⟨lt_mo183, List.forall_mem_cons.mpr ⟨lt_mo184, List.forall_mem_cons.mpr ⟨lt_mo185, List.forall_mem_cons.mpr ⟨lt_mo186, List.forall_mem_cons.mpr ⟨lt_mo187, List.forall_mem_cons.mpr ⟨lt_mo188, List.forall_mem_cons.mpr ⟨lt_mo189, List.forall_mem_cons.mpr ⟨lt_mo190, List.forall_mem_cons.mpr ⟨lt_mo191, fun _ h => absurd h List.not_mem_nil⟩⟩⟩⟩⟩⟩⟩⟩⟩⟩⟩⟩⟩⟩⟩⟩
theorem lt_mg12 : ∀ m ∈ [192, 193, 194, 195, 196, 197, 198, 199, 200, 201, 202, 203, 204, 205, 206, 207], lt_mok m = true := List.forall_mem_cons.mpr ⟨lt_mo192, List.forall_mem_cons.mpr ⟨lt_mo193, List.forall_mem_cons.mpr ⟨lt_mo194, List.forall_mem_cons.mpr ⟨lt_mo195, List.forall_mem_cons.mpr ⟨lt_mo196, List.forall_mem_cons.mpr ⟨lt_mo197, List.forall_mem_cons.mpr ⟨lt_mo198, List.forall_mem_cons.mpr ⟨lt_mo199, List.forall_mem_cons.mpr ⟨lt_mo200, List.forall_mem_cons.mpr ⟨lt_mo201, List.forall_mem_cons.mpr ⟨lt_mo202, List.forall_mem_cons.mpr ⟨lt_mo203, List.forall_mem_cons.mpr ⟨lt_mo204, List.forall_mem_cons.mpr ⟨lt_mo205, List.forall_mem_cons.mpr ⟨lt_mo206, List.forall_mem_cons.mpr ⟨lt_mo207, fun _ h => absurd h List.not_mem_nil⟩⟩⟩⟩⟩⟩⟩⟩⟩⟩⟩⟩⟩⟩⟩⟩
theorem lt_mg13 : ∀ m ∈ [208, 209, 210, 211, 212, 213, 214, 215, 216, 217, 218, 219, 220, 221, 222, 223], lt_mok m = true := List.forall_mem_cons.mpr ⟨lt_mo208, List.forall_mem_cons.mpr ⟨lt_mo209, List.forall_mem_cons.mpr ⟨lt_mo210, List.forall_mem_cons.mpr ⟨lt_mo211, List.forall_mem_cons.mpr ⟨lt_mo212, List.forall_mem_cons.mpr ⟨lt_mo213, List.forall_mem_cons.mpr ⟨lt_mo214, List.forall_mem_cons.mpr ⟨lt_mo215, List.forall_mem_cons.mpr ⟨lt_mo216, List.forall_mem_cons.mpr ⟨lt_mo217, List.forall_mem_cons.mpr ⟨lt_mo218, List.forall_mem_cons.mpr ⟨lt_mo219, List.forall_mem_cons.mpr ⟨lt_mo220, List.forall_mem_cons.mpr ⟨lt_mo221, List.forall_mem_cons.mpr ⟨lt_mo222, List.forall_mem_cons.mpr ⟨lt_mo223, fun _ h => absurd h List.not_mem_nil⟩⟩⟩⟩⟩⟩⟩⟩⟩⟩⟩⟩⟩⟩⟩⟩
theorem lt_mg14 : ∀ m ∈ [224, 225, 226, 227, 228, 229, 230, 231, 232, 233, 234, 235, 236, 237, 238, 239], lt_mok m = true := List.forall_mem_cons.mpr ⟨lt_mo224, List.forall_mem_cons.mpr ⟨lt_mo225, List.forall_mem_cons.mpr ⟨lt_mo226, List.forall_mem_cons.mpr ⟨lt_mo227, List.forall_mem_cons.mpr ⟨lt_mo228, List.forall_mem_cons.mpr ⟨lt_mo229, List.forall_mem_cons.mpr ⟨lt_mo230, List.forall_mem_cons.mpr ⟨lt_mo231, List.forall_mem_cons.mpr ⟨lt_mo232, List.forall_mem_cons.mpr ⟨lt_mo233, List.forall_mem_cons.mpr ⟨lt_mo234, List.forall_mem_cons.mpr ⟨lt_mo235, List.forall_mem_cons.mpr ⟨lt_mo236, List.forall_mem_cons.mpr ⟨lt_mo237, List.forall_mem_cons.mpr ⟨lt_mo238, List.forall_mem_cons.mpr ⟨lt_mo239, fun _ h => absurd h List.not_mem_nil⟩⟩⟩⟩⟩⟩⟩⟩⟩⟩⟩⟩⟩⟩⟩⟩
theorem lt_mg15 : ∀ m ∈ [240, 241, 242, 243, 244, 245, 246, 247, 248, 249, 250, 251, 252, 253, 254, 255], lt_mok m = true := List.forall_mem_cons.mpr ⟨lt_mo240, List.forall_mem_cons.mpr ⟨lt_mo241, List.forall_mem_cons.mpr ⟨lt_mo242, List.forall_mem_cons.mpr ⟨lt_mo243, List.forall_mem_cons.mpr ⟨lt_mo244, List.forall_mem_cons.mpr ⟨lt_mo245, List.forall_mem_cons.mpr ⟨lt_mo246, List.forall_mem_cons.mpr ⟨lt_mo247, List.forall_mem_cons.mpr ⟨lt_mo248, List.forall_mem_cons.mpr ⟨lt_mo249, List.forall_mem_cons.mpr ⟨lt_mo250, List.forall_mem_cons.mpr ⟨lt_mo251, List.forall_mem_cons.mpr ⟨lt_mo252, List.forall_mem_cons.mpr ⟨lt_mo253, List.forall_mem_cons.mpr ⟨lt_mo254, List.forall_mem_cons.mpr ⟨lt_mo255, fun _ h => absurd h List.not_mem_nil⟩⟩⟩⟩⟩⟩⟩⟩⟩⟩⟩⟩⟩⟩⟩⟩
theorem lt_mg16 : ∀ m ∈ [256, 257, 258, 259, 260, 261, 262, 263, 264, 265, 266, 267, 268, 269, 270, 271], lt_mok m = true := List.forall_mem_cons.mpr ⟨lt_mo256, List.forall_mem_cons.mpr ⟨lt_mo257, List.forall_mem_cons.mpr ⟨lt_mo258, List.forall_mem_cons.mpr ⟨lt_mo259, List.forall_mem_cons.mpr ⟨lt_mo260, List.forall_mem_cons.mpr ⟨lt_mo261, List.forall_mem_cons.mpr ⟨lt_mo262, List.forall_mem_cons.mpr ⟨lt_mo263, List.forall_mem_cons.mpr ⟨lt_mo264, List.forall_mem_cons.mpr ⟨lt_mo265, List.forall_mem_cons.mpr ⟨lt_mo266, List.forall_mem_cons.mpr ⟨lt_mo267, List.forall_mem_cons.mpr ⟨lt_mo268, List.forall_mem_cons.mpr ⟨lt_mo269, List.forall_mem_cons.mpr ⟨lt_mo270, List.forall_mem_cons.mpr ⟨lt_mo271, fun _ h => absurd h List.not_mem_nil⟩⟩⟩⟩⟩⟩⟩⟩⟩⟩⟩⟩⟩⟩⟩⟩
theorem lt_mg17 : ∀ m ∈ [272, 273, 274, 275, 276, 277, 278, 279, 280, 281, 282, 283, 284, 285, 286, 287], lt_mok m = true := List.forall_mem_cons.mpr ⟨lt_mo272, List.forall_mem_cons.mpr ⟨lt_mo273, List.forall_mem_cons.mpr ⟨lt_mo274, List.forall_mem_cons.mpr ⟨lt_mo275, List.forall_mem_cons.mpr ⟨lt_mo276, List.forall_mem_cons.mpr ⟨lt_mo277, List.forall_mem_cons.mpr ⟨lt_mo278, List.forall_mem_cons.mpr ⟨lt_mo279, List.forall_mem_cons.mpr ⟨lt_mo280, List.forall_mem_cons.mpr ⟨lt_mo281, List.forall_mem_cons.mpr ⟨lt_mo282, List.forall_mem_cons.mpr ⟨lt_mo283, List.forall_mem_cons.mpr ⟨lt_mo284, List.forall_mem_cons.mpr ⟨lt_mo285, List.forall_mem_cons.mpr ⟨lt_mo286, List.forall_mem_cons.mpr ⟨lt_mo287, fun _ h => absurd h List.not_mem_nil⟩⟩⟩⟩⟩⟩⟩⟩⟩⟩⟩⟩⟩⟩⟩⟩
theorem lt_mg18 : ∀ m ∈ [288, 289, 290, 291, 292, 293, 294, 295, 296, 297, 298, 299, 300, 301, 302, 303], lt_mok m = true := List.forall_mem_cons.mpr ⟨lt_mo288, List.forall_mem_cons.mpr ⟨lt_mo289, List.forall_mem_cons.mpr ⟨lt_mo290, List.forall_mem_cons.mpr ⟨lt_mo291, List.forall_mem_cons.mpr ⟨lt_mo292, List.forall_mem_cons.mpr ⟨lt_mo293, List.forall_mem_cons.mpr ⟨lt_mo294, List.forall_mem_cons.mpr ⟨lt_mo295, List.forall_mem_cons.mpr ⟨lt_mo296, List.forall_mem_cons.mpr ⟨lt_mo297, List.forall_mem_cons.mpr ⟨lt_mo298, List.forall_mem_cons.mpr ⟨lt_mo299, List.forall_mem_cons.mpr ⟨lt_mo300, List.forall_mem_cons.mpr ⟨lt_mo301, List.forall_mem_cons.mpr ⟨lt_mo302, List.forall_mem_cons.mpr ⟨lt_mo303, fun _ h => absurd h List.not_mem_nil⟩⟩⟩⟩⟩⟩⟩⟩⟩⟩⟩⟩⟩⟩⟩⟩
theorem lt_mgs : ∀ m ∈ [0, 1, 2, 3, 4, 5, 6, 7, 8, 9, 10, 11, 12, 13, 14, 15] ++ ([16, 17, 18, 19, 20, 21, 22, 23, 24, 25, 26, 27, 28, 29, 30, 31] ++ ([32, 33, 34, 35, 36, 37, 38, 39, 40, 41, 42, 43, 44, 45, 46, 47] ++ ([48, 49, 50, 51, 52, 53, 54, 55, 56, 57, 58, 59, 60, 61, 62, 63] ++ ([64, 65, 66, 67, 68, 69, 70, 71, 72, 73, 74, 75, 76, 77, 78, 79] ++ ([80, 81, 82, 83, 84, 85, 86, 87, 88, 89, 90, 91, 92, 93, 94, 95] ++ ([96, 97, 98, 99, 100, 101, 102, 103, 104, 105, 106, 107, 108, 109, 110, 111] ++ ([112, 113, 114, 115, 116, 117, 118, 119, 120, 121, 122, 123, 124, 125, 126, 127] ++ ([128, 129, 130, 131, 132, 133, 134, 135, 136, 137, 138, 139, 140, 141, 142, 143] ++ ([144, 145, 146, 147, 148, 149, 150, 151, 152, 153, 154, 155, 156, 157, 158, 159] ++ ([160, 161, 162, 163, 164, 165, 166, 167, 168, 169, 170, 171, 172, 173, 174, 175] ++ ([176, 177, 178, 179, 180, 181, 182, 183, 184, 185, 186, 187, 188, 189, 190, 191] ++ ([192, 193, 194, 195, 196, 197, 198, 199, 200, 201, 202, 203, 204, 205, 206, 207] ++ ([208, 209, 210, 211, 212, 213, 214, 215, 216, 217, 218, 219, 220, 221, 222, 223] ++ ([224, 225, 226, 227, 228, 229, 230, 231, 232, 233, 234, 235, 236, 237, 238, 239] ++ ([240, 241, 242, 243, 244, 245, 246, 247, 248, 249, 250, 251, 252, 253, 254, 255] ++ ([256, 257, 258, 259, 260, 261, 262, 263, 264, 265, 266, 267, 268, 269, 270, 271] ++ ([272, 273, 274, 275, 276, 277, 278, 279, 280, 281, 282, 283, 284, 285, 286, 287] ++ ([288, 289, 290, 291, 292, 293, 294, 295, 296, 297, 298, 299, 300, 301, 302, 303])))))))))))))))))), lt_mok m = true := List.forall_mem_append.mpr ⟨lt_mg0, List.forall_mem_append.mpr ⟨lt_mg1, List.forall_mem_append.mpr ⟨lt_mg2, List.forall_mem_append.mpr ⟨lt_mg3, List.forall_mem_append.mpr ⟨lt_mg4, List.forall_mem_append.mpr ⟨lt_mg5, List.forall_mem_append.mpr ⟨lt_mg6, List.forall_mem_append.mpr ⟨lt_mg7, List.forall_mem_append.mpr ⟨lt_mg8, List.forall_mem_append.mpr ⟨lt_mg9, List.forall_mem_append.mpr ⟨lt_mg10, List.forall_mem_append.mpr ⟨lt_mg11, List.forall_mem_append.mpr ⟨lt_mg12, List.forall_mem_append.mpr ⟨lt_mg13, List.forall_mem_append.mpr ⟨lt_mg14, List.forall_mem_append.mpr ⟨lt_mg15, List.forall_mem_append.mpr ⟨lt_mg16, List.forall_mem_append.mpr ⟨lt_mg17, lt_mg18⟩⟩⟩⟩⟩⟩⟩⟩⟩⟩⟩⟩⟩⟩⟩⟩⟩⟩
theorem lt_moka {m : Nat} (h : m < 304) : lt_mok m = true := lt_mgs m (by
  have e : [0, 1, 2, 3, 4, 5, 6, 7, 8, 9, 10, 11, 12, 13, 14, 15] ++ ([16, 17, 18, 19, 20, 21, 22, 23, 24, 25, 26, 27, 28, 29, 30, 31] ++ ([32, 33, 34, 35, 36, 37, 38, 39, 40, 41, 42, 43, 44, 45, 46, 47] ++ ([48, 49, 50, 51, 52, 53, 54, 55, 56, 57, 58, 59, 60, 61, 62, 63] ++ ([64, 65, 66, 67, 68, 69, 70, 71, 72, 73, 74, 75, 76, 77, 78, 79] ++ ([80, 81, 82, 83, 84, 85, 86, 87, 88, 89, 90, 91, 92, 93, 94, 95] ++ ([96, 97, 98, 99, 100, 101, 102, 103, 104, 105, 106, 107, 108, 109, 110, 111] ++ ([112, 113, 114, 115, 116, 117, 118, 119, 120, 121, 122, 123, 124, 125, 126, 127] ++ ([128, 129, 130, 131, 132, 133, 134, 135, 136, 137, 138, 139, 140, 141, 142, 143] ++ ([144, 145, 146, 147, 148, 149, 150, 151, 152, 153, 154, 155, 156, 157, 158, 159] ++ ([160, 161, 162, 163, 164, 165, 166, 167, 168, 169, 170, 171, 172, 173, 174, 175] ++ ([176, 177, 178, 179, 180, 181, 182, 183, 184, 185, 186, 187, 188, 189, 190, 191] ++ ([192, 193, 194, 195, 196, 197, 198, 199, 200, 201, 202, 203, 204, 205, 206, 207] ++ ([208, 209, 210, 211, 212, 213, 214, 215, 216, 217, 218, 219, 220, 221, 222, 223] ++ ([224, 225, 226, 227, 228, 229, 230, 231, 232, 233, 234, 235, 236, 237, 238, 239] ++ ([240, 241, 242, 243, 244, 245, 246, 247, 248, 249, 250, 251, 252, 253, 254, 255] ++ ([256, 257, 258, 259, 260, 261, 262, 263, 264, 265, 266, 267, 268, 269, 270, 271] ++ ([272, 273, 274, 275, 276, 277, 278, 279, 280, 281, 282, 283, 284, 285, 286, 287] ++ ([288, 289, 290, 291, 292, 293, 294, 295, 296, 297, 298, 299, 300, 301, 302, 303])))))))))))))))))) = List.range 304 := by decide +kernel
  rw [e]; exact List.mem_range.mpr h)
/-- places of the links of methods; is it by a nest -/
def lt_mpl (m : Nat) : List (Nat × Nat × Bool) := bif Nat.blt m 8 then (bif Nat.blt m 4 then (bif Nat.blt m 2 then (bif Nat.blt m 1 then ([(3, 123, false), (11, 126, false), (20, 153, true), (27, 183, true), (36, 317, false), (40, 322, false), (44, 557, false), (62, 931, true), (66, 595, false), (73, 978, false), (80, 613, false), (84, 591, false), (91, 592, true), (95, 542, false), (99, 552, false), (103, 561, false)]) else ([(3, 186, false), (30, 189, true), (37, 227, true), (58, 321, false), (64, 717, true), (93, 326, false), (97, 335, false), (104, 602, true), (112, 617, true), (115, 620, false), (119, 599, true), (128, 632, false), (132, 640, false), (142, 607, true), (145, 654, false), (149, 713, false), (155, 718, false), (158, 722, false), (162, 610, true), (166, 726, false), (173, 644, false), (176, 648, true), (179, 649, false), (182, 658, false), (185, 662, false), (189, 678, false), (192, 666, false), (199, 670, false), (203, 674, false), (206, 682, false), (209, 689, false), (212, 700, false), (218, 703, false), (221, 603, false), (224, 686, true), (228, 693, false), (231, 696, false), (234, 707, false), (242, 565, true), (246, 566, true), (249, 569, false), (253, 575, false)])) else (bif Nat.blt m 3 then ([(3, 364, false), (34, 1097, false), (43, 1098, false), (46, 1102, true), (50, 1103, true), (53, 1078, true)]) else ([(3, 129, false), (21, 130, false), (27, 653, true), (31, 951, true), (35, 546, true)]))) else (bif Nat.blt m 6 then (bif Nat.blt m 5 then ([(3, 156, false), (25, 982, true), (29, 983, false), (35, 784, true), (39, 785, false), (45, 786, true), (48, 556, true)]) else ([(3, 230, false), (18, 730, true), (28, 731, true), (32, 732, false), (36, 733, true), (40, 734, true)])) else (bif Nat.blt m 7 then ([(3, 457, false), (51, 1317, false), (57, 1318, false), (61, 1327, false), (65, 1324, true), (73, 1333, false), (77, 1323, true), (80, 1336, false), (84, 1340, false), (88, 1347, false), (93, 1325, true), (99, 1326, true), (102, 1344, false)]) else ([(3, 427, false), (35, 811, false), (41, 812, false), (50, 802, true), (54, 817, true), (58, 818, false), (64, 819, true), (68, 820, true), (71, 821, false), (75, 827, true), (79, 825, true), (82, 826, true), (89, 816, true), (92, 807, false), (96, 795, false), (99, 803, false), (103, 828, false), (107, 799, false), (110, 800, false), (113, 801, true)])))) else (bif Nat.blt m 12 then (bif Nat.blt m 10 then (bif Nat.blt m 9 then ([(3, 192, false), (31, 330, false), (39, 332, false), (49, 624, true), (53, 627, true), (57, 628, true), (61, 636, true), (64, 639, true), (67, 1216, true), (70, 573, true), (74, 574, true)]) else ([(3, 394, false), (34, 747, true), (38, 748, true), (42, 749, false), (46, 752, false), (50, 756, false), (53, 760, false), (57, 764, false)])) else (bif Nat.blt m 11 then ([(1, 115, false), (9, 120, false), (22, 361, true), (29, 391, true), (36, 424, true), (43, 454, true), (48, 842, false), (52, 909, false), (56, 927, false), (63, 526, false), (70, 947, false), (80, 959, false), (84, 970, false), (87, 974, false), (91, 993, false), (94, 997, false), (99, 743, false), (113, 1005, false), (129, 579, false), (132, 1013, false), (135, 1016, false), (144, 1017, false), (148, 1018, false), (154, 1026, false), (157, 1030, false), (161, 1038, false), (164, 1050, false), (174, 1066, false), (177, 587, false), (184, 534, false), (187, 1074, false), (195, 530, false), (201, 538, false), (205, 1093, false), (218, 1118, false), (231, 1126, false), (234, 1137, false), (255, 1162, false), (264, 1170, false), (267, 1178, false), (270, 1179, false), (273, 1187, false), (291, 1212, false), (294, 1231, false), (306, 1235, false), (309, 1250, false), (313, 780, false), (316, 1265, false), (319, 1268, false), (323, 1276, false), (331, 1291, false), (335, 1313, false), (345, 791, false), (353, 549, false)]) else ([(3, 1367, false), (73, 1372, false), (80, 1506, false), (84, 1509, false), (88, 1517, false), (92, 1538, false), (96, 1513, false), (100, 1376, false), (103, 1387, false), (107, 1380, false), (110, 1383, false), (116, 1582, false), (119, 1594, false), (122, 1610, false), (126, 1606, false), (130, 1614, false), (138, 1590, false), (141, 1598, false), (145, 1602, false), (148, 1615, false), (151, 1619, false), (155, 1570, false), (158, 1631, false), (161, 1542, false), (164, 1627, false), (167, 1586, false), (170, 1623, false), (173, 1566, false), (176, 1639, false), (179, 1578, false), (182, 1562, false), (185, 1574, false), (188, 1635, false), (191, 1558, false), (194, 1554, false), (200, 1529, false), (206, 1525, false), (213, 1521, false), (216, 1534, false), (220, 1550, false), (228, 1647, false), (231, 1652, false), (236, 1657, false), (245, 1681, false), (248, 1693, false), (258, 1725, false), (270, 1669, false), (273, 1680, false), (276, 1665, false), (279, 1672, false), (282, 1676, false), (285, 1661, false), (288, 1761, false), (291, 1769, false), (294, 1849, false), (303, 1845, false), (306, 1841, false), (309, 1825, false), (312, 1833, false), (315, 1837, false), (318, 1869, false), (321, 1865, false), (324, 1893, false), (327, 1889, false), (331, 1885, false)]))) else (bif Nat.blt m 14 then (bif Nat.blt m 13 then ([(7, 838, false), (19, 955, false), (23, 966, false), (27, 989, false), (30, 1001, false), (34, 1009, false), (38, 1022, false), (41, 1034, false), (44, 1046, false), (50, 1070, false), (53, 1082, false), (56, 1089, false), (59, 1107, false), (62, 1114, false), (65, 1122, false), (69, 1133, false), (72, 1144, false), (75, 1151, false), (78, 1158, false), (81, 1166, false), (85, 1174, false), (88, 1183, false), (91, 1194, false), (94, 1201, false), (97, 1208, false), (100, 1220, false), (104, 1227, false), (108, 1239, false), (111, 1246, false), (114, 1254, false), (117, 1261, false), (120, 1272, false), (124, 1280, false), (127, 1287, false), (130, 1295, false), (133, 1302, false), (136, 1309, false), (139, 1351, false), (142, 1358, false), (146, 112, false), (149, 1364, false), (150, 832, false), (155, 1502, false), (156, 1498, false), (159, 952, false), (162, 1530, false), (163, 963, false), (166, 1546, false), (167, 986, false), (169, 1643, false), (170, 998, false), (173, 1653, false), (174, 522, false), (177, 1685, false), (178, 1006, false), (181, 1689, false), (182, 1019, false), (184, 1697, false), (185, 1031, false), (187, 1701, false), (188, 1042, false), (191, 1705, false), (192, 583, false), (195, 1709, false), (196, 1067, false), (198, 1713, false), (199, 1079, false), (201, 1717, false), (202, 1086, false), (204, 1721, false), (205, 1104, false), (207, 1729, false), (208, 1111, false), (210, 1733, false), (211, 735, false), (214, 1737, false), (215, 739, false), (218, 1741, false), (219, 1119, false), (221, 1745, false), (222, 768, false), (225, 1749, false), (226, 772, false), (229, 1753, false), (230, 1130, false), (232, 1757, false), (233, 1141, false), (235, 1765, false), (236, 1148, false), (238, 1773, false), (239, 1155, false), (241, 1777, false), (242, 1163, false), (245, 1781, false), (246, 1171, false), (248, 1785, false), (249, 1180, false), (251, 1789, false), (252, 1191, false), (254, 1793, false), (255, 1198, false), (257, 1797, false), (258, 1205, false), (260, 1801, false), (261, 1217, false), (264, 1805, false), (265, 1224, false), (267, 1809, false), (268, 1236, false), (270, 1813, false), (271, 1243, false), (273, 1817, false), (274, 1251, false), (276, 1821, false), (277, 1258, false), (279, 1829, false), (280, 1269, false), (282, 1853, false), (283, 1277, false), (285, 1857, false), (286, 1284, false), (288, 1861, false), (289, 1292, false), (291, 1873, false), (292, 1299, false), (294, 1877, false), (295, 1306, false), (297, 1881, false), (298, 1348, false), (300, 1897, false), (301, 1355, false), (304, 1901, false), (305, 776, false), (309, 1905, false), (310, 787, false), (313, 1909, false)]) else ([])) else (bif Nat.blt m 15 then ([]) else ([]))))
def lt_yx (mi : Nat) : MethodName := bif Nat.beq mi 1000 then arraycopyName else bif Nat.beq mi 1001 then Lib.objectInit else lt_y mi
def lt_lok (own : Nat) (e : Nat × Nat × Nat) : Bool := match lt_find (lt_mpl own) e.1 with
  | some (i, true) => decide (lw_tbl[i]? = some (.methodLinkNest (lt_cn own) e.1 (lt_y e.2.1) "Cachebench")) && (Nat.blt e.2.1 304 && decide ((lt_np e.2.1).map (fun k => bif (lt_inf e.2.1).2.2.2.1 then k else k + 1) = some e.2.2))
  | some (i, false) => lt_gw i (.methodLink (lt_cn own) e.1 (lt_yx e.2.1)) && (Nat.beq e.2.1 1000 || (Nat.beq e.2.1 1001 || (Nat.blt e.2.1 304 && decide ((lt_np e.2.1).map (fun k => bif (lt_inf e.2.1).2.2.2.1 then k else k + 1) = some e.2.2))))
  | none => false
theorem lt_lo0 : (lt_mth 0).all (lt_lok 0) = true := by decide +kernel
theorem lt_lo1 : (lt_mth 1).all (lt_lok 1) = true := by decide +kernel
theorem lt_lo2 : (lt_mth 2).all (lt_lok 2) = true := by decide +kernel
theorem lt_lo3 : (lt_mth 3).all (lt_lok 3) = true := by decide +kernel
theorem lt_lo4 : (lt_mth 4).all (lt_lok 4) = true := by decide +kernel
theorem lt_lo5 : (lt_mth 5).all (lt_lok 5) = true := by decide +kernel
theorem lt_lo6 : (lt_mth 6).all (lt_lok 6) = true := by decide +kernel
theorem lt_lo7 : (lt_mth 7).all (lt_lok 7) = true := by decide +kernel
theorem lt_lo8 : (lt_mth 8).all (lt_lok 8) = true := by decide +kernel
theorem lt_lo9 : (lt_mth 9).all (lt_lok 9) = true := by decide +kernel
theorem lt_lo10 : (lt_mth 10).all (lt_lok 10) = true := by decide +kernel
theorem lt_lo11 : (lt_mth 11).all (lt_lok 11) = true := by decide +kernel
theorem lt_lo12 : (lt_mth 12).all (lt_lok 12) = true := by decide +kernel
theorem lt_lo13 : (lt_mth 13).all (lt_lok 13) = true := by decide +kernel
theorem lt_lo14 : (lt_mth 14).all (lt_lok 14) = true := by decide +kernel
theorem lt_lo15 : (lt_mth 15).all (lt_lok 15) = true := by decide +kernel
def lt_fpl (m : Nat) : List (Nat × Nat) := bif Nat.blt m 8 then (bif Nat.blt m 4 then (bif Nat.blt m 2 then (bif Nat.blt m 1 then ([(12, 339), (21, 341), (28, 343), (32, 344), (48, 251), (52, 272), (56, 232), (59, 274), (70, 346), (77, 170), (87, 166)]) else ([(9, 248), (15, 264), (18, 265), (22, 266), (25, 267), (31, 269), (38, 271), (42, 273), (45, 240), (49, 242), (52, 244), (55, 246), (68, 252), (71, 254), (74, 256), (77, 257), (80, 258), (83, 259), (86, 261), (90, 263), (99, 159), (108, 165), (109, 202), (123, 135), (136, 194), (139, 138), (152, 162), (170, 204), (196, 141), (239, 234)])) else (bif Nat.blt m 3 then ([(9, 375), (15, 365), (19, 367), (22, 369), (26, 373), (29, 250), (40, 371)]) else ([(9, 133), (15, 137), (18, 140)]))) else (bif Nat.blt m 6 then (bif Nat.blt m 5 then ([(9, 157), (15, 161), (18, 164), (21, 168)]) else ([(9, 231), (15, 233), (22, 134)])) else (bif Nat.blt m 7 then ([(11, 458), (15, 460), (19, 467), (23, 468), (26, 469), (29, 470), (32, 471), (35, 462), (39, 463), (42, 464), (45, 465), (48, 466)]) else ([(9, 433), (15, 434), (19, 435), (22, 436), (25, 428), (29, 430), (32, 432), (45, 158), (86, 169)])))) else (bif Nat.blt m 12 then (bif Nat.blt m 10 then (bif Nat.blt m 9 then ([(9, 193), (15, 196), (18, 198), (21, 200), (24, 201), (28, 203), (42, 205), (46, 206)]) else ([(9, 395), (15, 401), (18, 403), (21, 405), (24, 406), (27, 399), (31, 397)])) else (bif Nat.blt m 11 then ([(10, 497), (16, 498), (23, 501), (30, 502), (37, 503), (44, 504), (66, 340), (76, 345), (106, 400), (109, 402), (117, 404), (120, 342), (124, 171), (139, 253), (151, 243), (171, 255), (180, 368), (190, 370), (192, 500), (198, 499), (209, 372), (210, 366), (213, 374), (214, 398), (215, 396), (222, 136), (225, 139), (228, 142), (237, 160), (240, 163), (243, 167), (246, 241), (249, 245), (252, 247), (258, 260), (261, 249), (276, 270), (280, 195), (285, 197), (288, 199), (298, 262), (302, 268), (327, 429), (328, 431), (339, 461), (342, 459)]) else ([(9, 1392), (15, 1393), (18, 1396), (22, 1397), (25, 1398), (28, 1400), (31, 1401), (34, 1402), (37, 1404), (40, 1408), (44, 1410), (47, 1414), (50, 1417), (53, 1418), (56, 1421), (61, 1422), (64, 1423), (67, 1424), (70, 1425), (77, 1391), (113, 1395), (135, 1399), (197, 1394), (209, 1409), (224, 1416), (239, 1413), (242, 1412), (252, 1407), (255, 1403), (261, 1405), (264, 1406), (267, 1411), (297, 1419), (300, 1420), (335, 1415)]))) else (bif Nat.blt m 14 then (bif Nat.blt m 13 then ([]) else ([])) else (bif Nat.blt m 15 then ([]) else ([]))))
def lt_fok (own : Nat) (e : Nat × Nat × Nat × Nat × Bool) : Bool := match vwCl[e.2.1]?, lt_find (lt_fpl own) e.1 with
  | some r, some i => Nat.blt e.2.2.1 r.2.2 && (lt_gw i (.fieldLink (lt_cn own) e.1 r.1 (r.2.1 e.2.2.1).2.1 (r.2.1 e.2.2.1).2.2.1) && (decide ((r.2.1 e.2.2.1).1 = r.1) && (decide ((r.2.1 e.2.2.1).2.2.2 = e.2.2.2.2) && Nat.beq (lt_ft e.2.1 e.2.2.1) e.2.2.2.1)))
  | _, _ => false
theorem lt_fo0 : (lt_fld 0).all (lt_fok 0) = true := by decide +kernel
theorem lt_fo1 : (lt_fld 1).all (lt_fok 1) = true := by decide +kernel
theorem lt_fo2 : (lt_fld 2).all (lt_fok 2) = true := by decide +kernel
theorem lt_fo3 : (lt_fld 3).all (lt_fok 3) = true := by decide +kernel
theorem lt_fo4 : (lt_fld 4).all (lt_fok 4) = true := by decide +kernel
theorem lt_fo5 : (lt_fld 5).all (lt_fok 5) = true := by decide +kernel
theorem lt_fo6 : (lt_fld 6).all (lt_fok 6) = true := by decide +kernel
theorem lt_fo7 : (lt_fld 7).all (lt_fok 7) = true := by decide +kernel
theorem lt_fo8 : (lt_fld 8).all (lt_fok 8) = true := by decide +kernel
theorem lt_fo9 : (lt_fld 9).all (lt_fok 9) = true := by decide +kernel
theorem lt_fo10 : (lt_fld 10).all (lt_fok 10) = true := by decide +kernel
theorem lt_fo11 : (lt_fld 11).all (lt_fok 11) = true := by decide +kernel
theorem lt_fo12 : (lt_fld 12).all (lt_fok 12) = true := by decide +kernel
theorem lt_fo13 : (lt_fld 13).all (lt_fok 13) = true := by decide +kernel
theorem lt_fo14 : (lt_fld 14).all (lt_fok 14) = true := by decide +kernel
theorem lt_fo15 : (lt_fld 15).all (lt_fok 15) = true := by decide +kernel
def lt_cpl (m : Nat) : List (Nat × Nat) := bif Nat.blt m 8 then (bif Nat.blt m 4 then (bif Nat.blt m 2 then (bif Nat.blt m 1 then ([(9, 124), (18, 151), (25, 181)]) else ([(28, 187), (35, 225)])) else (bif Nat.blt m 3 then ([]) else ([]))) else (bif Nat.blt m 6 then (bif Nat.blt m 5 then ([]) else ([])) else (bif Nat.blt m 7 then ([]) else ([])))) else (bif Nat.blt m 12 then (bif Nat.blt m 10 then (bif Nat.blt m 9 then ([]) else ([])) else (bif Nat.blt m 11 then ([(7, 118), (20, 359), (27, 389), (34, 422), (41, 452), (60, 932), (103, 912), (168, 1051), (349, 845)]) else ([(13, 1368), (59, 1370)]))) else (bif Nat.blt m 14 then (bif Nat.blt m 13 then ([(8, 110), (13, 835), (15, 836), (17, 837), (48, 1045), (147, 1362)]) else ([])) else (bif Nat.blt m 15 then ([]) else ([]))))
def lt_en (m : Nat) : String := bif Nat.blt m 2 then (bif Nat.blt m 1 then ("java/lang/IndexOutOfBoundsException") else ("java/lang/IllegalArgumentException")) else (bif Nat.blt m 3 then ("java/lang/IllegalStateException") else ("java/util/NoSuchElementException"))
def lt_cx (c : Nat) : String := bif Nat.blt c 100 then (match vwCl[c]? with | some r => r.1 | none => "") else bif Nat.blt c 200 then lt_en (c - 100) else bif Nat.beq c 207 then "[[I" else "[[Z"
def lt_cok (own : Nat) (e : Nat × Nat) : Bool := match lt_find (lt_cpl own) e.1 with
  | some i => lt_gw i (.classLink (lt_cn own) e.1 (lt_cx e.2)) && (Nat.blt e.2 12 || (Nat.ble 100 e.2 && Nat.blt e.2 104 || (Nat.beq e.2 207 || Nat.beq e.2 208)))
  | none => false
theorem lt_co0 : (lt_cls 0).all (lt_cok 0) = true := by decide +kernel
theorem lt_co1 : (lt_cls 1).all (lt_cok 1) = true := by decide +kernel
theorem lt_co2 : (lt_cls 2).all (lt_cok 2) = true := by decide +kernel
theorem lt_co3 : (lt_cls 3).all (lt_cok 3) = true := by decide +kernel
theorem lt_co4 : (lt_cls 4).all (lt_cok 4) = true := by decide +kernel
theorem lt_co5 : (lt_cls 5).all (lt_cok 5) = true := by decide +kernel
theorem lt_co6 : (lt_cls 6).all (lt_cok 6) = true := by decide +kernel
theorem lt_co7 : (lt_cls 7).all (lt_cok 7) = true := by decide +kernel
theorem lt_co8 : (lt_cls 8).all (lt_cok 8) = true := by decide +kernel
theorem lt_co9 : (lt_cls 9).all (lt_cok 9) = true := by decide +kernel
theorem lt_co10 : (lt_cls 10).all (lt_cok 10) = true := by decide +kernel
theorem lt_co11 : (lt_cls 11).all (lt_cok 11) = true := by decide +kernel
theorem lt_co12 : (lt_cls 12).all (lt_cok 12) = true := by decide +kernel
theorem lt_co13 : (lt_cls 13).all (lt_cok 13) = true := by decide +kernel
theorem lt_co14 : (lt_cls 14).all (lt_cok 14) = true := by decide +kernel
theorem lt_co15 : (lt_cls 15).all (lt_cok 15) = true := by decide +kernel
def lt_kpl (m : Nat) : List (Nat × Nat) := bif Nat.blt m 8 then (bif Nat.blt m 4 then (bif Nat.blt m 2 then (bif Nat.blt m 1 then ([]) else ([])) else (bif Nat.blt m 3 then ([]) else ([]))) else (bif Nat.blt m 6 then (bif Nat.blt m 5 then ([]) else ([])) else (bif Nat.blt m 7 then ([(69, 1331), (71, 1332), (97, 1322)]) else ([])))) else (bif Nat.blt m 12 then (bif Nat.blt m 10 then (bif Nat.blt m 9 then ([(37, 331)]) else ([])) else (bif Nat.blt m 11 then ([(352, 996), (359, 631)]) else ([(227, 1651)]))) else (bif Nat.blt m 14 then (bif Nat.blt m 13 then ([]) else ([(265, 710), (266, 711), (267, 712)])) else (bif Nat.blt m 15 then ([]) else ([]))))
def lt_kok (own : Nat) (e : Nat × Int32) : Bool := match lt_find (lt_kpl own) e.1 with
  | some i => lt_gw i (.constant (lt_cn own) e.1 e.2)
  | none => false
def lt_jok (own : Nat) (e : Nat × Int64) : Bool := match lt_find (lt_kpl own) e.1 with
  | some i => lt_gw i (.constantLong (lt_cn own) e.1 e.2)
  | none => false
theorem lt_ko0 : (lt_cst 0).all (lt_kok 0) = true := by decide +kernel
theorem lt_jo0 : (lt_csl 0).all (lt_jok 0) = true := by decide +kernel
theorem lt_ko1 : (lt_cst 1).all (lt_kok 1) = true := by decide +kernel
theorem lt_jo1 : (lt_csl 1).all (lt_jok 1) = true := by decide +kernel
theorem lt_ko2 : (lt_cst 2).all (lt_kok 2) = true := by decide +kernel
theorem lt_jo2 : (lt_csl 2).all (lt_jok 2) = true := by decide +kernel
theorem lt_ko3 : (lt_cst 3).all (lt_kok 3) = true := by decide +kernel
theorem lt_jo3 : (lt_csl 3).all (lt_jok 3) = true := by decide +kernel
theorem lt_ko4 : (lt_cst 4).all (lt_kok 4) = true := by decide +kernel
theorem lt_jo4 : (lt_csl 4).all (lt_jok 4) = true := by decide +kernel
theorem lt_ko5 : (lt_cst 5).all (lt_kok 5) = true := by decide +kernel
theorem lt_jo5 : (lt_csl 5).all (lt_jok 5) = true := by decide +kernel
theorem lt_ko6 : (lt_cst 6).all (lt_kok 6) = true := by decide +kernel
theorem lt_jo6 : (lt_csl 6).all (lt_jok 6) = true := by decide +kernel
theorem lt_ko7 : (lt_cst 7).all (lt_kok 7) = true := by decide +kernel
theorem lt_jo7 : (lt_csl 7).all (lt_jok 7) = true := by decide +kernel
theorem lt_ko8 : (lt_cst 8).all (lt_kok 8) = true := by decide +kernel
theorem lt_jo8 : (lt_csl 8).all (lt_jok 8) = true := by decide +kernel
theorem lt_ko9 : (lt_cst 9).all (lt_kok 9) = true := by decide +kernel
theorem lt_jo9 : (lt_csl 9).all (lt_jok 9) = true := by decide +kernel
theorem lt_ko10 : (lt_cst 10).all (lt_kok 10) = true := by decide +kernel
theorem lt_jo10 : (lt_csl 10).all (lt_jok 10) = true := by decide +kernel
theorem lt_ko11 : (lt_cst 11).all (lt_kok 11) = true := by decide +kernel
theorem lt_jo11 : (lt_csl 11).all (lt_jok 11) = true := by decide +kernel
theorem lt_ko12 : (lt_cst 12).all (lt_kok 12) = true := by decide +kernel
theorem lt_jo12 : (lt_csl 12).all (lt_jok 12) = true := by decide +kernel
theorem lt_ko13 : (lt_cst 13).all (lt_kok 13) = true := by decide +kernel
theorem lt_jo13 : (lt_csl 13).all (lt_jok 13) = true := by decide +kernel
theorem lt_ko14 : (lt_cst 14).all (lt_kok 14) = true := by decide +kernel
theorem lt_jo14 : (lt_csl 14).all (lt_jok 14) = true := by decide +kernel
theorem lt_ko15 : (lt_cst 15).all (lt_kok 15) = true := by decide +kernel
theorem lt_jo15 : (lt_csl 15).all (lt_jok 15) = true := by decide +kernel
theorem lt_lo : ∀ k, k < 16 → (lt_mth k).all (lt_lok k) = true
  | 0, _ => lt_lo0
  | 1, _ => lt_lo1
  | 2, _ => lt_lo2
  | 3, _ => lt_lo3
  | 4, _ => lt_lo4
  | 5, _ => lt_lo5
  | 6, _ => lt_lo6
  | 7, _ => lt_lo7
  | 8, _ => lt_lo8
  | 9, _ => lt_lo9
  | 10, _ => lt_lo10
  | 11, _ => lt_lo11
  | 12, _ => lt_lo12
  | 13, _ => lt_lo13
  | 14, _ => lt_lo14
  | 15, _ => lt_lo15
  | k + 16, h => absurd h (by omega)
theorem lt_fo : ∀ k, k < 16 → (lt_fld k).all (lt_fok k) = true
  | 0, _ => lt_fo0
  | 1, _ => lt_fo1
  | 2, _ => lt_fo2
  | 3, _ => lt_fo3
  | 4, _ => lt_fo4
  | 5, _ => lt_fo5
  | 6, _ => lt_fo6
  | 7, _ => lt_fo7
  | 8, _ => lt_fo8
  | 9, _ => lt_fo9
  | 10, _ => lt_fo10
  | 11, _ => lt_fo11
  | 12, _ => lt_fo12
  | 13, _ => lt_fo13
  | 14, _ => lt_fo14
  | 15, _ => lt_fo15
  | k + 16, h => absurd h (by omega)
theorem lt_co : ∀ k, k < 16 → (lt_cls k).all (lt_cok k) = true
  | 0, _ => lt_co0
  | 1, _ => lt_co1
  | 2, _ => lt_co2
  | 3, _ => lt_co3
  | 4, _ => lt_co4
  | 5, _ => lt_co5
  | 6, _ => lt_co6
  | 7, _ => lt_co7
  | 8, _ => lt_co8
  | 9, _ => lt_co9
  | 10, _ => lt_co10
  | 11, _ => lt_co11
  | 12, _ => lt_co12
  | 13, _ => lt_co13
  | 14, _ => lt_co14
  | 15, _ => lt_co15
  | k + 16, h => absurd h (by omega)
theorem lt_ko : ∀ k, k < 16 → (lt_cst k).all (lt_kok k) = true
  | 0, _ => lt_ko0
  | 1, _ => lt_ko1
  | 2, _ => lt_ko2
  | 3, _ => lt_ko3
  | 4, _ => lt_ko4
  | 5, _ => lt_ko5
  | 6, _ => lt_ko6
  | 7, _ => lt_ko7
  | 8, _ => lt_ko8
  | 9, _ => lt_ko9
  | 10, _ => lt_ko10
  | 11, _ => lt_ko11
  | 12, _ => lt_ko12
  | 13, _ => lt_ko13
  | 14, _ => lt_ko14
  | 15, _ => lt_ko15
  | k + 16, h => absurd h (by omega)
theorem lt_jo : ∀ k, k < 16 → (lt_csl k).all (lt_jok k) = true
  | 0, _ => lt_jo0
  | 1, _ => lt_jo1
  | 2, _ => lt_jo2
  | 3, _ => lt_jo3
  | 4, _ => lt_jo4
  | 5, _ => lt_jo5
  | 6, _ => lt_jo6
  | 7, _ => lt_jo7
  | 8, _ => lt_jo8
  | 9, _ => lt_jo9
  | 10, _ => lt_jo10
  | 11, _ => lt_jo11
  | 12, _ => lt_jo12
  | 13, _ => lt_jo13
  | 14, _ => lt_jo14
  | 15, _ => lt_jo15
  | k + 16, h => absurd h (by omega)
theorem lt_own_lt : ∀ m, m < 305 → (lt_inf m).1 < 16 := by decide +kernel
def lt_kp (m : Nat) : Nat × Nat × List Nat := bif Nat.blt m 6 then (bif Nat.blt m 3 then (bif Nat.blt m 1 then ((119, 88, [347, 349, 351, 353, 355])) else (bif Nat.blt m 2 then ((182, 92, [275, 277, 279, 281, 283, 285, 287, 289, 291, 293, 295, 297, 299, 301, 303, 305, 307, 309, 311, 313])) else ((360, 95, [376, 378, 380, 382, 384, 386])))) else (bif Nat.blt m 4 then ((125, 89, [143, 145, 147])) else (bif Nat.blt m 5 then ((152, 91, [172, 174, 176, 178])) else ((226, 94, [235, 237]))))) else (bif Nat.blt m 9 then (bif Nat.blt m 7 then ((453, 98, [472, 474, 476, 478, 480, 482, 484, 486, 488, 490, 492, 494])) else (bif Nat.blt m 8 then ((423, 97, [437, 439, 441, 443, 445, 447, 449])) else ((188, 93, [207, 209, 211, 213, 215, 217, 219, 221])))) else (bif Nat.blt m 10 then ((390, 96, [407, 409, 411, 413, 415, 417, 419])) else (bif Nat.blt m 11 then ((111, 87, [505, 507, 509, 511, 513, 515, 517, 519])) else ((1363, 99, [1426, 1428, 1430, 1432, 1434, 1436, 1438, 1440, 1442, 1444, 1446, 1448, 1450, 1452, 1454, 1456, 1458, 1460, 1462, 1464, 1466, 1468, 1470, 1472, 1474, 1476, 1478, 1480, 1482, 1484, 1486, 1488, 1490, 1492, 1494])))))
def lt_tyo : Nat → FieldType → Bool
  | 0, .int => true
  | 1, .long => true
  | 3, .boolean => true
  | 2, .object _ => true
  | 2, .array _ => true
  | _, _ => false
/-- a class's words -/
def lt_kw (c : Nat) : Bool := match vwCl[c]? with
  | some r => lt_gw (lt_kp c).1 (.instantiable r.1 r.2.2) && (lt_gw (lt_kp c).2.1 (.initialized r.1) && (decide (u_ws r.1 r.2.1 r.2.2 = (lt_kp c).2.2.filterMap fun i => lw_tbl[i]?) && ((u_ws r.1 r.2.1 r.2.2).all goodWord && (Nat.beq (lt_nf c) r.2.2 &&
      ((List.range r.2.2).all fun k => match parseFieldDescriptor (r.2.1 k).2.2.1 with | some t => lt_tyo (lt_ft c k) t | none => false) &&
      (List.range r.2.2).all fun a => (List.range r.2.2).all fun b => decide (a = b) || decide ((r.2.1 a).2.1 ≠ (r.2.1 b).2.1)))))
  | none => false
theorem lt_kw0 : lt_kw 0 = true := by decide +kernel
theorem lt_kw1 : lt_kw 1 = true := by decide +kernel
theorem lt_kw2 : lt_kw 2 = true := by decide +kernel
theorem lt_kw3 : lt_kw 3 = true := by decide +kernel
theorem lt_kw4 : lt_kw 4 = true := by decide +kernel
theorem lt_kw5 : lt_kw 5 = true := by decide +kernel
theorem lt_kw6 : lt_kw 6 = true := by decide +kernel
theorem lt_kw7 : lt_kw 7 = true := by decide +kernel
theorem lt_kw8 : lt_kw 8 = true := by decide +kernel
theorem lt_kw9 : lt_kw 9 = true := by decide +kernel
theorem lt_kw10 : lt_kw 10 = true := by decide +kernel
theorem lt_kw11 : lt_kw 11 = true := by decide +kernel
theorem lt_kws : ∀ c, c < 12 → lt_kw c = true
  | 0, _ => lt_kw0
  | 1, _ => lt_kw1
  | 2, _ => lt_kw2
  | 3, _ => lt_kw3
  | 4, _ => lt_kw4
  | 5, _ => lt_kw5
  | 6, _ => lt_kw6
  | 7, _ => lt_kw7
  | 8, _ => lt_kw8
  | 9, _ => lt_kw9
  | 10, _ => lt_kw10
  | 11, _ => lt_kw11
  | k + 12, h => absurd h (by omega)
theorem lt_ac_int : Cond.arrayClass .int ∈ lw_good := lt_gw_in (i := 150) (by decide +kernel)
theorem lt_ac_long : Cond.arrayClass .long ∈ lw_good := lt_gw_in (i := 224) (by decide +kernel)
theorem lt_ac_boolean : Cond.arrayClass .boolean ∈ lw_good := lt_gw_in (i := 1497) (by decide +kernel)
theorem lt_ac_double : Cond.arrayClass .double ∈ lw_good := lt_gw_in (i := 1913) (by decide +kernel)
theorem lt_ao_Bench : lw_tbl[358]? = some (Cond.arrayOver (.object "Cachebench$Bench")) := by decide +kernel
theorem lt_ao_Cache : lw_tbl[316]? = some (Cond.arrayOver (.object "Cachebench$Cache")) := by decide +kernel
theorem lt_ao_int : lw_tbl[1369]? = some (Cond.arrayOver (.array .int)) := by decide +kernel
theorem lt_ao_boolean : lw_tbl[1371]? = some (Cond.arrayOver (.array .boolean)) := by decide +kernel
theorem lt_sys1 : Cond.native arraycopyName ∈ lw_good := lt_gw_in (i := 551) (by decide +kernel)
theorem lt_sys2 : Cond.static arraycopyName ∈ lw_good := lt_gw_in (i := 550) (by decide +kernel)
theorem lt_sys3 : Cond.initialized "java/lang/System" ∈ lw_good := lt_gw_in (i := 106) (by decide +kernel)
theorem lt_obj1 : Cond.instanceMethod Lib.objectInit ∈ lw_good := lt_gw_in (i := 116) (by decide +kernel)
theorem lt_obj2 : Cond.code Lib.objectInit ⟨#[0xb1]⟩ 1 none ∈ lw_good := lt_gw_in (i := 117) (by decide +kernel)
