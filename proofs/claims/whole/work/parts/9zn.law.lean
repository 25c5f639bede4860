/-! part 9zn: the words of the law -/
set_option maxRecDepth 100000 in
theorem kwl0 : ∀ w ∈ kw0, w ∈ lw_tbl := fun w h => (goodIn_p kw0 [114, 117] (by decide +kernel) (by decide +kernel) w h).1
set_option maxRecDepth 100000 in
theorem kwl1 : ∀ w ∈ kw1, w ∈ lw_tbl := fun w h => (goodIn_p kw1 [122, 128, 132, 153, 177, 216] (by decide +kernel) (by decide +kernel) w h).1
set_option maxRecDepth 100000 in
theorem kwl2 : ∀ w ∈ kw2, w ∈ lw_tbl := fun w h => (goodIn_p kw2 [241, 247, 292] (by decide +kernel) (by decide +kernel) w h).1
set_option maxRecDepth 100000 in
theorem kwl3 : ∀ w ∈ kw3, w ∈ lw_tbl := fun w h => (goodIn_p kw3 [306, 340, 405, 428] (by decide +kernel) (by decide +kernel) w h).1
set_option maxRecDepth 100000 in
theorem kwl4 : ∀ w ∈ kw4, w ∈ lw_tbl := fun w h => (goodIn_p kw4 [1292] (by decide +kernel) (by decide +kernel) w h).1
set_option maxRecDepth 100000 in
theorem kwl5 : ∀ w ∈ kw5, w ∈ lw_tbl := fun w h => (goodIn_p kw5 [1297, 478, 481, 485, 489, 494, 498] (by decide +kernel) (by decide +kernel) w h).1
set_option maxRecDepth 100000 in
theorem kwl6 : ∀ w ∈ kw6, w ∈ lw_tbl := fun w h => (goodIn_p kw6 [502, 1509, 1512, 1516, 506, 510, 514, 517, 1520] (by decide +kernel) (by decide +kernel) w h).1
set_option maxRecDepth 100000 in
theorem kwl7 : ∀ w ∈ kw7, w ∈ lw_tbl := fun w h => (goodIn_p kw7 [1524, 1528, 523, 527, 530, 1532, 1535, 535, 538, 542] (by decide +kernel) (by decide +kernel) w h).1
set_option maxRecDepth 100000 in
theorem kwl8 : ∀ w ∈ kw8, w ∈ lw_tbl := fun w h => (goodIn_p kw8 [545, 548, 1539, 1542, 554, 557, 560, 564, 1546] (by decide +kernel) (by decide +kernel) w h).1
set_option maxRecDepth 100000 in
theorem kwl9 : ∀ w ∈ kw9, w ∈ lw_tbl := fun w h => (goodIn_p kw9 [1549, 1552, 572, 575, 578, 1556, 1559, 1562, 584, 1566, 588] (by decide +kernel) (by decide +kernel) w h).1
set_option maxRecDepth 100000 in
theorem kwl10 : ∀ w ∈ kw10, w ∈ lw_tbl := fun w h => (goodIn_p kw10 [592, 599, 603, 606, 609, 613, 616, 619, 623] (by decide +kernel) (by decide +kernel) w h).1
set_option maxRecDepth 100000 in
theorem kwl11 : ∀ w ∈ kw11, w ∈ lw_tbl := fun w h => (goodIn_p kw11 [629, 634, 640, 647, 651, 654, 658, 661] (by decide +kernel) (by decide +kernel) w h).1
set_option maxRecDepth 100000 in
theorem kwl12 : ∀ w ∈ kw12, w ∈ lw_tbl := fun w h => (goodIn_p kw12 [668, 674, 677, 681, 1570, 1574, 1578, 1582, 1585, 1589] (by decide +kernel) (by decide +kernel) w h).1
set_option maxRecDepth 100000 in
theorem kwl13 : ∀ w ∈ kw13, w ∈ lw_tbl := fun w h => (goodIn_p kw13 [1593, 1596, 687, 691, 696, 700, 704, 708] (by decide +kernel) (by decide +kernel) w h).1
set_option maxRecDepth 100000 in
theorem kwl14 : ∀ w ∈ kw14, w ∈ lw_tbl := fun w h => (goodIn_p kw14 [717, 1600, 1605, 1609, 1613, 1616, 721, 1624] (by decide +kernel) (by decide +kernel) w h).1
set_option maxRecDepth 100000 in
theorem kwl15 : ∀ w ∈ kw15, w ∈ lw_tbl := fun w h => (goodIn_p kw15 [1214, 1628, 1505, 1286, 1632, 728, 1636] (by decide +kernel) (by decide +kernel) w h).1
set_option maxRecDepth 100000 in
theorem kwl16 : ∀ w ∈ kw16, w ∈ lw_tbl := fun w h => (goodIn_p kw16 [732, 735, 1620, 742, 746, 750, 754] (by decide +kernel) (by decide +kernel) w h).1
set_option maxRecDepth 100000 in
theorem kwl17 : ∀ w ∈ kw17, w ∈ lw_tbl := fun w h => (goodIn_p kw17 [759, 764, 770, 774, 778, 785, 1640, 1644] (by decide +kernel) (by decide +kernel) w h).1
set_option maxRecDepth 100000 in
theorem kwl18 : ∀ w ∈ kw18, w ∈ lw_tbl := fun w h => (goodIn_p kw18 [1648, 1652, 1655, 1660, 1664, 1668, 789, 793, 797] (by decide +kernel) (by decide +kernel) w h).1
set_option maxRecDepth 100000 in
theorem kwl19 : ∀ w ∈ kw19, w ∈ lw_tbl := fun w h => (goodIn_p kw19 [803, 807, 812, 816, 821, 825, 829, 832, 1672] (by decide +kernel) (by decide +kernel) w h).1
set_option maxRecDepth 100000 in
theorem kwl20 : ∀ w ∈ kw20, w ∈ lw_tbl := fun w h => (goodIn_p kw20 [1676, 1680, 1684, 1688, 1692, 1696, 837, 841, 845] (by decide +kernel) (by decide +kernel) w h).1
set_option maxRecDepth 100000 in
theorem kwl21 : ∀ w ∈ kw21, w ∈ lw_tbl := fun w h => (goodIn_p kw21 [849, 853, 861, 864, 1700, 1704, 1708, 1711] (by decide +kernel) (by decide +kernel) w h).1
set_option maxRecDepth 100000 in
theorem kwl22 : ∀ w ∈ kw22, w ∈ lw_tbl := fun w h => (goodIn_p kw22 [869, 873, 877, 1715, 885, 889, 1719, 893] (by decide +kernel) (by decide +kernel) w h).1
set_option maxRecDepth 100000 in
theorem kwl23 : ∀ w ∈ kw23, w ∈ lw_tbl := fun w h => (goodIn_p kw23 [897, 1723, 901, 906, 910, 913, 917, 922, 927] (by decide +kernel) (by decide +kernel) w h).1
set_option maxRecDepth 100000 in
theorem kwl24 : ∀ w ∈ kw24, w ∈ lw_tbl := fun w h => (goodIn_p kw24 [1727, 1732, 1735, 1738, 934, 938, 942] (by decide +kernel) (by decide +kernel) w h).1
set_option maxRecDepth 100000 in
theorem kwl25 : ∀ w ∈ kw25, w ∈ lw_tbl := fun w h => (goodIn_p kw25 [1746, 948, 952, 956, 961, 965, 970, 976] (by decide +kernel) (by decide +kernel) w h).1
set_option maxRecDepth 100000 in
theorem kwl26 : ∀ w ∈ kw26, w ∈ lw_tbl := fun w h => (goodIn_p kw26 [984, 994, 1750, 1754, 1758, 1762, 1766, 998] (by decide +kernel) (by decide +kernel) w h).1
set_option maxRecDepth 100000 in
theorem kwl27 : ∀ w ∈ kw27, w ∈ lw_tbl := fun w h => (goodIn_p kw27 [1002, 1008, 1770, 1014, 1774, 1019, 1023, 1027, 1778] (by decide +kernel) (by decide +kernel) w h).1
set_option maxRecDepth 100000 in
theorem kwl28 : ∀ w ∈ kw28, w ∈ lw_tbl := fun w h => (goodIn_p kw28 [1782, 1032, 1786, 1036, 1040, 1045, 1049, 1053] (by decide +kernel) (by decide +kernel) w h).1
set_option maxRecDepth 100000 in
theorem kwl29 : ∀ w ∈ kw29, w ∈ lw_tbl := fun w h => (goodIn_p kw29 [1058, 1062, 1066, 1070, 1077, 1081, 1085, 1089, 1094] (by decide +kernel) (by decide +kernel) w h).1
set_option maxRecDepth 100000 in
theorem kwl30 : ∀ w ∈ kw30, w ∈ lw_tbl := fun w h => (goodIn_p kw30 [1098, 1102, 1108, 1112, 1115, 1118, 1123, 1126, 1129, 1132] (by decide +kernel) (by decide +kernel) w h).1
set_option maxRecDepth 100000 in
theorem kwl31 : ∀ w ∈ kw31, w ∈ lw_tbl := fun w h => (goodIn_p kw31 [1136, 1153, 1157, 1161, 1165, 1170, 1174, 1179] (by decide +kernel) (by decide +kernel) w h).1
set_option maxRecDepth 100000 in
theorem kwl32 : ∀ w ∈ kw32, w ∈ lw_tbl := fun w h => (goodIn_p kw32 [1184, 1188, 1193, 1197, 1790, 1794, 1798] (by decide +kernel) (by decide +kernel) w h).1
set_option maxRecDepth 100000 in
theorem kwl33 : ∀ w ∈ kw33, w ∈ lw_tbl := fun w h => (goodIn_p kw33 [1802, 1805, 1809, 1813, 1852, 1841, 1848, 1837, 1817, 1822] (by decide +kernel) (by decide +kernel) w h).1
set_option maxRecDepth 100000 in
theorem kwl34 : ∀ w ∈ kw34, w ∈ lw_tbl := fun w h => (goodIn_p kw34 [1825, 1831, 1857, 1202, 1861, 1206, 1865] (by decide +kernel) (by decide +kernel) w h).1
