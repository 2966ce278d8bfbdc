/-! THE LAW'S OWN CODE: its sites; laid by wip/whole/glaw.py -/
def lss : List (Nat × Nat × Nat × Nat × Int) := [(8, 8, 0, 0, 0), (15, 0, 0, 2, 0), (16, 8, 12, 0, 0), (18, 0, 188, 2, 0), (19, 0, 23, 0, 0), (23, 0, 197, 0, 0), (24, 0, 58, 0, 0), (27, 0, 203, 0, 0), (28, 0, 59, 0, 0), (31, 0, 204, 0, 0), (32, 0, 75, 0, 0), (36, 0, 243, 0, 0), (42, 0, 218, 0, 0), (43, 0, 196, 0, 0), (47, 0, 78, 0, 0), (50, 0, 220, 0, 0), (51, 0, 79, 0, 0), (54, 0, 221, 0, 0), (55, 0, 80, 0, 0), (58, 0, 222, 0, 0), (59, 0, 81, 0, 0), (62, 0, 223, 0, 0), (63, 0, 82, 0, 0), (67, 0, 224, 0, 0), (68, 0, 83, 0, 0), (71, 0, 227, 0, 0), (72, 0, 90, 0, 0), (75, 0, 231, 0, 0), (76, 0, 92, 0, 0), (79, 0, 232, 0, 0), (80, 0, 98, 0, 0), (83, 0, 234, 0, 0), (84, 0, 103, 0, 0), (88, 0, 237, 0, 0), (89, 0, 104, 0, 0), (92, 0, 238, 0, 0), (93, 0, 106, 0, 0), (96, 0, 241, 0, 0), (97, 0, 107, 0, 0), (100, 0, 242, 0, 0), (101, 0, 108, 0, 0), (104, 0, 249, 0, 0), (105, 0, 109, 0, 0), (108, 0, 244, 0, 0), (109, 0, 112, 0, 0), (112, 0, 246, 0, 0), (113, 0, 115, 0, 0), (116, 0, 248, 0, 0), (117, 0, 118, 0, 0), (121, 0, 225, 0, 0), (122, 0, 119, 0, 0), (125, 0, 226, 0, 0), (126, 0, 120, 0, 0), (129, 0, 257, 0, 0), (130, 0, 129, 0, 0), (133, 0, 259, 0, 0), (134, 0, 133, 0, 0), (137, 0, 260, 0, 0), (138, 0, 136, 0, 0), (141, 0, 262, 0, 0), (142, 0, 137, 0, 0), (145, 0, 269, 0, 0), (146, 0, 138, 0, 0), (149, 0, 250, 0, 0), (150, 0, 139, 0, 0), (153, 0, 256, 0, 0), (154, 0, 140, 0, 0), (157, 0, 263, 0, 0), (158, 0, 141, 0, 0), (161, 0, 264, 0, 0), (162, 0, 142, 0, 0), (165, 0, 265, 0, 0), (166, 0, 144, 0, 0), (169, 0, 267, 0, 0), (170, 0, 147, 0, 0), (173, 0, 270, 0, 0), (174, 0, 148, 0, 0), (177, 0, 271, 0, 0), (178, 0, 151, 0, 0), (181, 0, 274, 0, 0), (182, 0, 155, 0, 0), (185, 0, 279, 0, 0), (186, 0, 163, 0, 0), (189, 0, 286, 0, 0), (190, 0, 165, 0, 0), (194, 0, 278, 0, 0), (195, 0, 166, 0, 0), (198, 0, 287, 0, 0), (199, 0, 168, 0, 0), (202, 0, 290, 0, 0), (203, 0, 169, 0, 0), (207, 0, 291, 0, 0), (208, 0, 170, 0, 0), (211, 0, 292, 0, 0), (212, 0, 173, 0, 0), (215, 0, 295, 0, 0), (216, 0, 174, 0, 0), (219, 0, 296, 0, 0), (220, 0, 175, 0, 0), (223, 0, 297, 0, 0), (224, 0, 176, 0, 0), (227, 0, 298, 0, 0), (228, 0, 179, 0, 0), (231, 0, 301, 0, 0), (232, 0, 180, 0, 0), (235, 0, 302, 0, 0), (236, 0, 181, 0, 0), (239, 0, 303, 0, 0), (240, 0, 182, 0, 0), (243, 0, 305, 0, 0), (244, 0, 184, 0, 0), (247, 0, 306, 0, 0)]
def lps : List (List Nat) := [[109, 110, 89], [111, 112, 89], [1168, 1169, 102], [1170, 1171, 102], [388, 389, 390, 89], [1307, 1308, 1309, 102], [535, 536, 537, 89], [1330, 1331, 1332, 102], [539, 540, 541, 89], [1334, 1335, 1336, 102], [613, 614, 615, 89], [1487, 1488, 1489, 102], [1388, 1389, 1390, 102], [1303, 1304, 1305, 102], [624, 625, 626, 89], [1397, 1398, 1399, 102], [628, 629, 630, 89], [1401, 1402, 1403, 102], [632, 633, 634, 89], [1405, 1406, 1407, 102], [636, 637, 638, 89], [1409, 1410, 1411, 102], [640, 641, 642, 89], [1413, 1414, 1415, 102], [648, 649, 650, 89], [1426, 1427, 1428, 102], [679, 680, 681, 89], [1442, 1443, 1444, 102], [687, 688, 689, 89], [1446, 1447, 1448, 102], [711, 712, 713, 89], [1454, 1455, 1456, 102], [732, 733, 734, 89], [1465, 1466, 1467, 102], [737, 738, 739, 89], [1469, 1470, 1471, 102], [746, 747, 748, 89], [1479, 1480, 1481, 102], [750, 751, 752, 89], [1483, 1484, 1485, 102], [754, 755, 756, 89], [1515, 1516, 1517, 102], [758, 759, 760, 89], [1491, 1492, 1493, 102], [771, 772, 773, 89], [1499, 1500, 1501, 102], [786, 787, 788, 89], [1511, 1512, 1513, 102], [797, 798, 799, 89], [1417, 1418, 1419, 102], [802, 803, 804, 89], [1422, 1423, 1424, 102], [806, 807, 808, 89], [1546, 1547, 1548, 102], [846, 847, 848, 89], [1554, 1555, 1556, 102], [862, 863, 864, 89], [1558, 1559, 1560, 102], [872, 873, 874, 89], [1566, 1567, 1568, 102], [877, 878, 879, 89], [1594, 1595, 1596, 102], [882, 883, 884, 89], [1519, 1520, 1521, 102], [888, 889, 890, 89], [1542, 1543, 1544, 102], [892, 893, 894, 89], [1571, 1572, 1573, 102], [896, 897, 898, 89], [1575, 1576, 1577, 102], [900, 901, 902, 89], [1579, 1580, 1581, 102], [907, 908, 909, 89], [1586, 1587, 1588, 102], [921, 922, 923, 89], [1598, 1599, 1600, 102], [925, 926, 927, 89], [1602, 1603, 1604, 102], [937, 938, 939, 89], [1615, 1616, 1617, 102], [954, 955, 956, 89], [1636, 1637, 1638, 102], [992, 993, 994, 89], [1665, 1666, 1667, 102], [1000, 1001, 1002, 89], [1632, 1633, 1634, 102], [1004, 1005, 1006, 89], [1669, 1670, 1671, 102], [1014, 1015, 1016, 89], [1682, 1683, 1684, 102], [1018, 1019, 1020, 89], [1686, 1687, 1688, 102], [1023, 1024, 1025, 89], [1691, 1692, 1693, 102], [1035, 1036, 1037, 89], [1703, 1704, 1705, 102], [1039, 1040, 1041, 89], [1707, 1708, 1709, 102], [1043, 1044, 1045, 89], [1711, 1712, 1713, 102], [1047, 1048, 1049, 89], [1715, 1716, 1717, 102], [1061, 1062, 1063, 89], [1727, 1728, 1729, 102], [1066, 1067, 1068, 89], [1732, 1733, 1734, 102], [1071, 1072, 1073, 89], [1736, 1737, 1738, 102], [1075, 1076, 1077, 89], [1743, 1744, 1745, 102], [1082, 1083, 1084, 89], [1747, 1748, 1749, 102]]
def lchk : Bool := lss.length == lps.length && (lss.zip lps).all fun q => decide (q.2.map (fun j => lw_tbl[j]?) = (xwords "BernoulliWaysLaw" q.1.1 q.1.2).map some)
theorem l_s : lchk = true := by decide +kernel
theorem l_siteW {ix : Nat} {q : Nat × Nat × Nat × Int} (h : lss.lookup ix = some q) : ∀ w ∈ xwords "BernoulliWaysLaw" ix q, w ∈ lw_tbl := by
  have hc := l_s
  unfold lchk at hc
  rw [Bool.and_eq_true] at hc
  have hm := x_lookup h
  obtain ⟨i, hi⟩ := List.getElem?_of_mem hm
  have hl : i < lss.length := (List.getElem?_eq_some_iff.mp hi).1
  have hl2 : i < lps.length := by
    have := hc.1
    rw [beq_iff_eq] at this
    omega
  have hz : (lss.zip lps)[i]? = some ((ix, q), lps[i]) := by
    rw [List.getElem?_zip_eq_some]
    exact ⟨hi, List.getElem?_eq_getElem hl2⟩
  have hd := List.all_eq_true.mp hc.2 _ (List.mem_of_getElem? hz)
  have hd := of_decide_eq_true hd
  intro w hw
  have h1 : some w ∈ (xwords "BernoulliWaysLaw" ix q).map some := List.mem_map.mpr ⟨w, hw, rfl⟩
  rw [← hd] at h1
  obtain ⟨j, -, hj⟩ := List.mem_map.mp h1
  exact List.mem_of_getElem? hj
def lroom (q : Nat × Nat × Nat × Nat × Int) : Bool := decide (q.2.1 = 8) || decide (xfr q.2.2.1 + 1 ≤ 10 ∧ 8 + (xml q.2.2.1 + 11) + xlo q.2.2.1 ≤ 432 ∧ q.2.2.1 < 307)
theorem l_room : lss.all lroom = true := by decide +kernel
theorem l_rooms {ix z a : Nat} {x : Int} (h : lss.lookup ix = some (0, z, a, x)) : xfr z + 1 ≤ 10 ∧ 8 + (xml z + 11) + xlo z ≤ 432 ∧ z < 307 := by
  have a := List.all_eq_true.mp l_room _ (x_lookup h)
  unfold lroom at a
  rw [Bool.or_eq_true] at a
  rcases a with q | q
  · exact absurd (of_decide_eq_true q) (show ¬ (0 : Nat) = 8 by decide)
  · exact of_decide_eq_true q
theorem dl_0 : decode code 0 = .ok (.new 8, 3) := by decide +kernel
theorem dl_3 : decode code 3 = .ok (.dup, 1) := by decide +kernel
theorem dl_4 : decode code 4 = .ok (.invokespecial 15, 3) := by decide +kernel
theorem dl_7 : decode code 7 = .ok (.astore_n 1, 1) := by decide +kernel
theorem dl_8 : decode code 8 = .ok (.new 16, 3) := by decide +kernel
theorem dl_11 : decode code 11 = .ok (.dup, 1) := by decide +kernel
theorem dl_12 : decode code 12 = .ok (.invokespecial 18, 3) := by decide +kernel
theorem dl_15 : decode code 15 = .ok (.astore_n 2, 1) := by decide +kernel
theorem dl_16 : decode code 16 = .ok (.iconst 1, 1) := by decide +kernel
theorem dl_17 : decode code 17 = .ok (.newarray .long, 2) := by decide +kernel
theorem dl_19 : decode code 19 = .ok (.astore_n 3, 1) := by decide +kernel
theorem dl_20 : decode code 20 = .ok (.iconst 0, 1) := by decide +kernel
theorem dl_21 : decode code 21 = .ok (.istore 4, 2) := by decide +kernel
theorem dl_23 : decode code 23 = .ok (.iload 4, 2) := by decide +kernel
theorem dl_25 : decode code 25 = .ok (.aload_n 0, 1) := by decide +kernel
theorem dl_26 : decode code 26 = .ok (.arraylength, 1) := by decide +kernel
theorem dl_27 : decode code 27 = .ok (.iconst 5, 1) := by decide +kernel
theorem dl_28 : decode code 28 = .ok (.isub, 1) := by decide +kernel
theorem dl_29 : decode code 29 = .ok (.if_icmp .gt 2228, 3) := by decide +kernel
theorem dl_32 : decode code 32 = .ok (.aload_n 0, 1) := by decide +kernel
theorem dl_33 : decode code 33 = .ok (.iload 4, 2) := by decide +kernel
theorem dl_35 : decode code 35 = .ok (.iaload, 1) := by decide +kernel
theorem dl_36 : decode code 36 = .ok (.bipush 63, 2) := by decide +kernel
theorem dl_38 : decode code 38 = .ok (.iand, 1) := by decide +kernel
theorem dl_2251 : decode code 2251 = .ok (.iinc 4 5, 3) := by decide +kernel
theorem dl_2254 : decode code 2254 = .ok (.goto (-2231), 3) := by decide +kernel
theorem dl_2257 : decode code 2257 = .ok (.iconst 1, 1) := by decide +kernel
theorem dl_2258 : decode code 2258 = .ok (.ireturn, 1) := by decide +kernel
def loffs : Array Int := #[229, 266, 303, 340, 365, 432, 457, 482, 507, 544, 570, 607, 644, 681, 718, 767, 816, 841, 867, 892, 917, 966, 1004, 1054, 1079, 1104, 1141, 1166, 1203, 1252, 1301, 1338, 1363, 1388, 1413, 1463, 1488, 1538, 1575, 1612, 1661, 1722, 1772, 1822, 1884, 1933, 1970, 2008, 2034, 2072, 2110, 2136, 2162, 2187]
theorem dl_39 : decode code 39 = .ok (.tableswitch 2212 0 53 loffs, 229) := by decide +kernel
/-- arguments k .. k + n - 1 are pushed -/
def dpush (pc k n : Nat) : Prop := ∀ j, j < n → decode code (pc + 6 * j) = .ok (.aload_n 0, 1) ∧ decode code (pc + 6 * j + 1) = .ok (.iload 4, 2) ∧ decode code (pc + 6 * j + 3) = .ok (.iconst ((k + j : Nat) : Int), 1) ∧ decode code (pc + 6 * j + 4) = .ok (.iadd, 1) ∧ decode code (pc + 6 * j + 5) = .ok (.iaload, 1)
/-! lay -/
theorem dl_268 : decode code 268 = .ok (.aload_n 1, 1) := by decide +kernel
theorem pa_0 : dpush 269 1 2 := by unfold dpush; decide +kernel
theorem dl_281 : decode code 281 = .ok (.invokevirtual 19, 3) := by decide +kernel
theorem dl_284 : decode code 284 = .ok (.aload_n 2, 1) := by decide +kernel
theorem pb_0 : dpush 285 1 2 := by unfold dpush; decide +kernel
theorem dl_297 : decode code 297 = .ok (.invokevirtual 23, 3) := by decide +kernel
theorem dl_300 : decode code 300 = .ok (.if_icmp .eq 1951, 3) := by decide +kernel
/-! relay -/
theorem dl_305 : decode code 305 = .ok (.aload_n 1, 1) := by decide +kernel
theorem pa_1 : dpush 306 1 2 := by unfold dpush; decide +kernel
theorem dl_318 : decode code 318 = .ok (.invokevirtual 24, 3) := by decide +kernel
theorem dl_321 : decode code 321 = .ok (.aload_n 2, 1) := by decide +kernel
theorem pb_1 : dpush 322 1 2 := by unfold dpush; decide +kernel
theorem dl_334 : decode code 334 = .ok (.invokevirtual 27, 3) := by decide +kernel
theorem dl_337 : decode code 337 = .ok (.if_icmp .eq 1914, 3) := by decide +kernel
/-! spoil -/
theorem dl_342 : decode code 342 = .ok (.aload_n 1, 1) := by decide +kernel
theorem pa_2 : dpush 343 1 2 := by unfold dpush; decide +kernel
theorem dl_355 : decode code 355 = .ok (.invokevirtual 28, 3) := by decide +kernel
theorem dl_358 : decode code 358 = .ok (.aload_n 2, 1) := by decide +kernel
theorem pb_2 : dpush 359 1 2 := by unfold dpush; decide +kernel
theorem dl_371 : decode code 371 = .ok (.invokevirtual 31, 3) := by decide +kernel
theorem dl_374 : decode code 374 = .ok (.if_icmp .eq 1877, 3) := by decide +kernel
/-! heal -/
theorem dl_379 : decode code 379 = .ok (.aload_n 1, 1) := by decide +kernel
theorem pa_3 : dpush 380 1 1 := by unfold dpush; decide +kernel
theorem dl_386 : decode code 386 = .ok (.invokevirtual 32, 3) := by decide +kernel
theorem dl_389 : decode code 389 = .ok (.aload_n 2, 1) := by decide +kernel
theorem pb_3 : dpush 390 1 1 := by unfold dpush; decide +kernel
theorem dl_396 : decode code 396 = .ok (.invokevirtual 36, 3) := by decide +kernel
theorem dl_399 : decode code 399 = .ok (.if_icmp .eq 1852, 3) := by decide +kernel
/-! way -/
theorem dl_471 : decode code 471 = .ok (.aload_n 1, 1) := by decide +kernel
theorem pa_5 : dpush 472 1 1 := by unfold dpush; decide +kernel
theorem dl_478 : decode code 478 = .ok (.invokevirtual 47, 3) := by decide +kernel
theorem dl_481 : decode code 481 = .ok (.aload_n 2, 1) := by decide +kernel
theorem pb_5 : dpush 482 1 1 := by unfold dpush; decide +kernel
theorem dl_488 : decode code 488 = .ok (.invokevirtual 50, 3) := by decide +kernel
theorem dl_491 : decode code 491 = .ok (.if_icmp .eq 1760, 3) := by decide +kernel
/-! right -/
theorem dl_496 : decode code 496 = .ok (.aload_n 1, 1) := by decide +kernel
theorem pa_6 : dpush 497 1 1 := by unfold dpush; decide +kernel
theorem dl_503 : decode code 503 = .ok (.invokevirtual 51, 3) := by decide +kernel
theorem dl_506 : decode code 506 = .ok (.aload_n 2, 1) := by decide +kernel
theorem pb_6 : dpush 507 1 1 := by unfold dpush; decide +kernel
theorem dl_513 : decode code 513 = .ok (.invokevirtual 54, 3) := by decide +kernel
theorem dl_516 : decode code 516 = .ok (.if_icmp .eq 1735, 3) := by decide +kernel
/-! agree -/
theorem dl_521 : decode code 521 = .ok (.aload_n 1, 1) := by decide +kernel
theorem pa_7 : dpush 522 1 1 := by unfold dpush; decide +kernel
theorem dl_528 : decode code 528 = .ok (.invokevirtual 55, 3) := by decide +kernel
theorem dl_531 : decode code 531 = .ok (.aload_n 2, 1) := by decide +kernel
theorem pb_7 : dpush 532 1 1 := by unfold dpush; decide +kernel
theorem dl_538 : decode code 538 = .ok (.invokevirtual 58, 3) := by decide +kernel
theorem dl_541 : decode code 541 = .ok (.if_icmp .eq 1710, 3) := by decide +kernel
/-! prime -/
theorem dl_546 : decode code 546 = .ok (.aload_n 1, 1) := by decide +kernel
theorem pa_8 : dpush 547 1 2 := by unfold dpush; decide +kernel
theorem dl_559 : decode code 559 = .ok (.invokevirtual 59, 3) := by decide +kernel
theorem dl_562 : decode code 562 = .ok (.aload_n 2, 1) := by decide +kernel
theorem pb_8 : dpush 563 1 2 := by unfold dpush; decide +kernel
theorem dl_575 : decode code 575 = .ok (.invokevirtual 62, 3) := by decide +kernel
theorem dl_578 : decode code 578 = .ok (.if_icmp .eq 1673, 3) := by decide +kernel
/-! whole -/
theorem dl_583 : decode code 583 = .ok (.aload_n 1, 1) := by decide +kernel
theorem pa_9 : dpush 584 1 1 := by unfold dpush; decide +kernel
theorem dl_590 : decode code 590 = .ok (.invokevirtual 63, 3) := by decide +kernel
theorem dl_593 : decode code 593 = .ok (.aload_n 2, 1) := by decide +kernel
theorem pb_9 : dpush 594 1 1 := by unfold dpush; decide +kernel
theorem dl_600 : decode code 600 = .ok (.invokevirtual 67, 3) := by decide +kernel
theorem dl_603 : decode code 603 = .ok (.lcmp, 1) := by decide +kernel
theorem dl_604 : decode code 604 = .ok (.ifCond .eq 1647, 3) := by decide +kernel
/-! residue -/
theorem dl_609 : decode code 609 = .ok (.aload_n 1, 1) := by decide +kernel
theorem pa_10 : dpush 610 1 2 := by unfold dpush; decide +kernel
theorem dl_622 : decode code 622 = .ok (.invokevirtual 68, 3) := by decide +kernel
theorem dl_625 : decode code 625 = .ok (.aload_n 2, 1) := by decide +kernel
theorem pb_10 : dpush 626 1 2 := by unfold dpush; decide +kernel
theorem dl_638 : decode code 638 = .ok (.invokevirtual 71, 3) := by decide +kernel
theorem dl_641 : decode code 641 = .ok (.if_icmp .eq 1610, 3) := by decide +kernel
/-! byPowers -/
theorem dl_646 : decode code 646 = .ok (.aload_n 1, 1) := by decide +kernel
theorem pa_11 : dpush 647 1 2 := by unfold dpush; decide +kernel
theorem dl_659 : decode code 659 = .ok (.invokevirtual 72, 3) := by decide +kernel
theorem dl_662 : decode code 662 = .ok (.aload_n 2, 1) := by decide +kernel
theorem pb_11 : dpush 663 1 2 := by unfold dpush; decide +kernel
theorem dl_675 : decode code 675 = .ok (.invokevirtual 75, 3) := by decide +kernel
theorem dl_678 : decode code 678 = .ok (.if_icmp .eq 1573, 3) := by decide +kernel
/-! memo -/
theorem dl_683 : decode code 683 = .ok (.aload_n 1, 1) := by decide +kernel
theorem pa_12 : dpush 684 1 2 := by unfold dpush; decide +kernel
theorem dl_696 : decode code 696 = .ok (.invokevirtual 76, 3) := by decide +kernel
theorem dl_699 : decode code 699 = .ok (.aload_n 2, 1) := by decide +kernel
theorem pb_12 : dpush 700 1 2 := by unfold dpush; decide +kernel
theorem dl_712 : decode code 712 = .ok (.invokevirtual 79, 3) := by decide +kernel
theorem dl_715 : decode code 715 = .ok (.if_icmp .eq 1536, 3) := by decide +kernel
/-! often -/
theorem dl_720 : decode code 720 = .ok (.aload_n 1, 1) := by decide +kernel
theorem pa_13 : dpush 721 1 2 := by unfold dpush; decide +kernel
theorem dl_733 : decode code 733 = .ok (.invokevirtual 80, 3) := by decide +kernel
theorem dl_736 : decode code 736 = .ok (.aload_n 2, 1) := by decide +kernel
theorem pb_13 : dpush 737 1 2 := by unfold dpush; decide +kernel
theorem dl_749 : decode code 749 = .ok (.invokevirtual 83, 3) := by decide +kernel
theorem dl_752 : decode code 752 = .ok (.if_icmp .eq 1499, 3) := by decide +kernel
/-! kummer -/
theorem dl_757 : decode code 757 = .ok (.aload_n 1, 1) := by decide +kernel
theorem pa_14 : dpush 758 1 3 := by unfold dpush; decide +kernel
theorem dl_776 : decode code 776 = .ok (.invokevirtual 84, 3) := by decide +kernel
theorem dl_779 : decode code 779 = .ok (.aload_n 2, 1) := by decide +kernel
theorem pb_14 : dpush 780 1 3 := by unfold dpush; decide +kernel
theorem dl_798 : decode code 798 = .ok (.invokevirtual 88, 3) := by decide +kernel
theorem dl_801 : decode code 801 = .ok (.if_icmp .eq 1450, 3) := by decide +kernel
/-! kummerTwice -/
theorem dl_806 : decode code 806 = .ok (.aload_n 1, 1) := by decide +kernel
theorem pa_15 : dpush 807 1 3 := by unfold dpush; decide +kernel
theorem dl_825 : decode code 825 = .ok (.invokevirtual 89, 3) := by decide +kernel
theorem dl_828 : decode code 828 = .ok (.aload_n 2, 1) := by decide +kernel
theorem pb_15 : dpush 829 1 3 := by unfold dpush; decide +kernel
theorem dl_847 : decode code 847 = .ok (.invokevirtual 92, 3) := by decide +kernel
theorem dl_850 : decode code 850 = .ok (.if_icmp .eq 1401, 3) := by decide +kernel
/-! tests -/
theorem dl_855 : decode code 855 = .ok (.aload_n 1, 1) := by decide +kernel
theorem pa_16 : dpush 856 1 1 := by unfold dpush; decide +kernel
theorem dl_862 : decode code 862 = .ok (.invokevirtual 93, 3) := by decide +kernel
theorem dl_865 : decode code 865 = .ok (.aload_n 2, 1) := by decide +kernel
theorem pb_16 : dpush 866 1 1 := by unfold dpush; decide +kernel
theorem dl_872 : decode code 872 = .ok (.invokevirtual 96, 3) := by decide +kernel
theorem dl_875 : decode code 875 = .ok (.if_icmp .eq 1376, 3) := by decide +kernel
/-! suspects -/
theorem dl_880 : decode code 880 = .ok (.aload_n 1, 1) := by decide +kernel
theorem pa_17 : dpush 881 1 1 := by unfold dpush; decide +kernel
theorem dl_887 : decode code 887 = .ok (.invokevirtual 97, 3) := by decide +kernel
theorem dl_890 : decode code 890 = .ok (.aload_n 2, 1) := by decide +kernel
theorem pb_17 : dpush 891 1 1 := by unfold dpush; decide +kernel
theorem dl_897 : decode code 897 = .ok (.invokevirtual 100, 3) := by decide +kernel
theorem dl_900 : decode code 900 = .ok (.lcmp, 1) := by decide +kernel
theorem dl_901 : decode code 901 = .ok (.ifCond .eq 1350, 3) := by decide +kernel
/-! broken -/
theorem dl_906 : decode code 906 = .ok (.aload_n 1, 1) := by decide +kernel
theorem pa_18 : dpush 907 1 1 := by unfold dpush; decide +kernel
theorem dl_913 : decode code 913 = .ok (.invokevirtual 101, 3) := by decide +kernel
theorem dl_916 : decode code 916 = .ok (.aload_n 2, 1) := by decide +kernel
theorem pb_18 : dpush 917 1 1 := by unfold dpush; decide +kernel
theorem dl_923 : decode code 923 = .ok (.invokevirtual 104, 3) := by decide +kernel
theorem dl_926 : decode code 926 = .ok (.if_icmp .eq 1325, 3) := by decide +kernel
/-! culprit -/
theorem dl_931 : decode code 931 = .ok (.aload_n 1, 1) := by decide +kernel
theorem pa_19 : dpush 932 1 1 := by unfold dpush; decide +kernel
theorem dl_938 : decode code 938 = .ok (.invokevirtual 105, 3) := by decide +kernel
theorem dl_941 : decode code 941 = .ok (.aload_n 2, 1) := by decide +kernel
theorem pb_19 : dpush 942 1 1 := by unfold dpush; decide +kernel
theorem dl_948 : decode code 948 = .ok (.invokevirtual 108, 3) := by decide +kernel
theorem dl_951 : decode code 951 = .ok (.if_icmp .eq 1300, 3) := by decide +kernel
/-! trial -/
theorem dl_956 : decode code 956 = .ok (.aload_n 1, 1) := by decide +kernel
theorem pa_20 : dpush 957 1 3 := by unfold dpush; decide +kernel
theorem dl_975 : decode code 975 = .ok (.invokevirtual 109, 3) := by decide +kernel
theorem dl_978 : decode code 978 = .ok (.aload_n 2, 1) := by decide +kernel
theorem pb_20 : dpush 979 1 3 := by unfold dpush; decide +kernel
theorem dl_997 : decode code 997 = .ok (.invokevirtual 112, 3) := by decide +kernel
theorem dl_1000 : decode code 1000 = .ok (.if_icmp .eq 1251, 3) := by decide +kernel
/-! remainder -/
theorem dl_1005 : decode code 1005 = .ok (.aload_n 1, 1) := by decide +kernel
theorem pa_21 : dpush 1006 1 2 := by unfold dpush; decide +kernel
theorem dl_1018 : decode code 1018 = .ok (.invokevirtual 113, 3) := by decide +kernel
theorem dl_1021 : decode code 1021 = .ok (.aload_n 2, 1) := by decide +kernel
theorem pb_21 : dpush 1022 1 2 := by unfold dpush; decide +kernel
theorem dl_1034 : decode code 1034 = .ok (.invokevirtual 116, 3) := by decide +kernel
theorem dl_1037 : decode code 1037 = .ok (.lcmp, 1) := by decide +kernel
theorem dl_1038 : decode code 1038 = .ok (.ifCond .eq 1213, 3) := by decide +kernel
/-! triangleAt -/
theorem dl_1043 : decode code 1043 = .ok (.aload_n 1, 1) := by decide +kernel
theorem pa_22 : dpush 1044 1 3 := by unfold dpush; decide +kernel
theorem dl_1062 : decode code 1062 = .ok (.invokevirtual 117, 3) := by decide +kernel
theorem dl_1065 : decode code 1065 = .ok (.aload_n 2, 1) := by decide +kernel
theorem pb_22 : dpush 1066 1 3 := by unfold dpush; decide +kernel
theorem dl_1084 : decode code 1084 = .ok (.invokevirtual 121, 3) := by decide +kernel
theorem dl_1087 : decode code 1087 = .ok (.lcmp, 1) := by decide +kernel
theorem dl_1088 : decode code 1088 = .ok (.ifCond .eq 1163, 3) := by decide +kernel
/-! whichBelow -/
theorem dl_1093 : decode code 1093 = .ok (.aload_n 1, 1) := by decide +kernel
theorem pa_23 : dpush 1094 1 1 := by unfold dpush; decide +kernel
theorem dl_1100 : decode code 1100 = .ok (.invokevirtual 122, 3) := by decide +kernel
theorem dl_1103 : decode code 1103 = .ok (.aload_n 2, 1) := by decide +kernel
theorem pb_23 : dpush 1104 1 1 := by unfold dpush; decide +kernel
theorem dl_1110 : decode code 1110 = .ok (.invokevirtual 125, 3) := by decide +kernel
theorem dl_1113 : decode code 1113 = .ok (.if_icmp .eq 1138, 3) := by decide +kernel
/-! irregular -/
theorem dl_1118 : decode code 1118 = .ok (.aload_n 1, 1) := by decide +kernel
theorem pa_24 : dpush 1119 1 1 := by unfold dpush; decide +kernel
theorem dl_1125 : decode code 1125 = .ok (.invokevirtual 126, 3) := by decide +kernel
theorem dl_1128 : decode code 1128 = .ok (.aload_n 2, 1) := by decide +kernel
theorem pb_24 : dpush 1129 1 1 := by unfold dpush; decide +kernel
theorem dl_1135 : decode code 1135 = .ok (.invokevirtual 129, 3) := by decide +kernel
theorem dl_1138 : decode code 1138 = .ok (.if_icmp .eq 1113, 3) := by decide +kernel
/-! pair -/
theorem dl_1143 : decode code 1143 = .ok (.aload_n 1, 1) := by decide +kernel
theorem pa_25 : dpush 1144 1 2 := by unfold dpush; decide +kernel
theorem dl_1156 : decode code 1156 = .ok (.invokevirtual 130, 3) := by decide +kernel
theorem dl_1159 : decode code 1159 = .ok (.aload_n 2, 1) := by decide +kernel
theorem pb_25 : dpush 1160 1 2 := by unfold dpush; decide +kernel
theorem dl_1172 : decode code 1172 = .ok (.invokevirtual 133, 3) := by decide +kernel
theorem dl_1175 : decode code 1175 = .ok (.if_icmp .eq 1076, 3) := by decide +kernel
/-! second -/
theorem dl_1180 : decode code 1180 = .ok (.aload_n 1, 1) := by decide +kernel
theorem pa_26 : dpush 1181 1 1 := by unfold dpush; decide +kernel
theorem dl_1187 : decode code 1187 = .ok (.invokevirtual 134, 3) := by decide +kernel
theorem dl_1190 : decode code 1190 = .ok (.aload_n 2, 1) := by decide +kernel
theorem pb_26 : dpush 1191 1 1 := by unfold dpush; decide +kernel
theorem dl_1197 : decode code 1197 = .ok (.invokevirtual 137, 3) := by decide +kernel
theorem dl_1200 : decode code 1200 = .ok (.if_icmp .eq 1051, 3) := by decide +kernel
/-! far -/
theorem dl_1205 : decode code 1205 = .ok (.aload_n 1, 1) := by decide +kernel
theorem pa_27 : dpush 1206 1 2 := by unfold dpush; decide +kernel
theorem dl_1218 : decode code 1218 = .ok (.invokevirtual 138, 3) := by decide +kernel
theorem dl_1221 : decode code 1221 = .ok (.aload_n 2, 1) := by decide +kernel
theorem pb_27 : dpush 1222 1 2 := by unfold dpush; decide +kernel
theorem dl_1234 : decode code 1234 = .ok (.invokevirtual 141, 3) := by decide +kernel
theorem dl_1237 : decode code 1237 = .ok (.if_icmp .eq 1014, 3) := by decide +kernel
/-! voronoi -/
theorem dl_1242 : decode code 1242 = .ok (.aload_n 1, 1) := by decide +kernel
theorem pa_28 : dpush 1243 1 3 := by unfold dpush; decide +kernel
theorem dl_1261 : decode code 1261 = .ok (.invokevirtual 142, 3) := by decide +kernel
theorem dl_1264 : decode code 1264 = .ok (.aload_n 2, 1) := by decide +kernel
theorem pb_28 : dpush 1265 1 3 := by unfold dpush; decide +kernel
theorem dl_1283 : decode code 1283 = .ok (.invokevirtual 145, 3) := by decide +kernel
theorem dl_1286 : decode code 1286 = .ok (.if_icmp .eq 965, 3) := by decide +kernel
/-! byWay -/
theorem dl_1291 : decode code 1291 = .ok (.aload_n 1, 1) := by decide +kernel
theorem pa_29 : dpush 1292 1 3 := by unfold dpush; decide +kernel
theorem dl_1310 : decode code 1310 = .ok (.invokevirtual 146, 3) := by decide +kernel
theorem dl_1313 : decode code 1313 = .ok (.aload_n 2, 1) := by decide +kernel
theorem pb_29 : dpush 1314 1 3 := by unfold dpush; decide +kernel
theorem dl_1332 : decode code 1332 = .ok (.invokevirtual 149, 3) := by decide +kernel
theorem dl_1335 : decode code 1335 = .ok (.if_icmp .eq 916, 3) := by decide +kernel
/-! nothings -/
theorem dl_1340 : decode code 1340 = .ok (.aload_n 1, 1) := by decide +kernel
theorem pa_30 : dpush 1341 1 2 := by unfold dpush; decide +kernel
theorem dl_1353 : decode code 1353 = .ok (.invokevirtual 150, 3) := by decide +kernel
theorem dl_1356 : decode code 1356 = .ok (.aload_n 2, 1) := by decide +kernel
theorem pb_30 : dpush 1357 1 2 := by unfold dpush; decide +kernel
theorem dl_1369 : decode code 1369 = .ok (.invokevirtual 153, 3) := by decide +kernel
theorem dl_1372 : decode code 1372 = .ok (.if_icmp .eq 879, 3) := by decide +kernel
/-! harmonic -/
theorem dl_1377 : decode code 1377 = .ok (.aload_n 1, 1) := by decide +kernel
theorem pa_31 : dpush 1378 1 1 := by unfold dpush; decide +kernel
theorem dl_1384 : decode code 1384 = .ok (.invokevirtual 154, 3) := by decide +kernel
theorem dl_1387 : decode code 1387 = .ok (.aload_n 2, 1) := by decide +kernel
theorem pb_31 : dpush 1388 1 1 := by unfold dpush; decide +kernel
theorem dl_1394 : decode code 1394 = .ok (.invokevirtual 157, 3) := by decide +kernel
theorem dl_1397 : decode code 1397 = .ok (.if_icmp .eq 854, 3) := by decide +kernel
/-! wilson -/
theorem dl_1402 : decode code 1402 = .ok (.aload_n 1, 1) := by decide +kernel
theorem pa_32 : dpush 1403 1 1 := by unfold dpush; decide +kernel
theorem dl_1409 : decode code 1409 = .ok (.invokevirtual 158, 3) := by decide +kernel
theorem dl_1412 : decode code 1412 = .ok (.aload_n 2, 1) := by decide +kernel
theorem pb_32 : dpush 1413 1 1 := by unfold dpush; decide +kernel
theorem dl_1419 : decode code 1419 = .ok (.invokevirtual 161, 3) := by decide +kernel
theorem dl_1422 : decode code 1422 = .ok (.if_icmp .eq 829, 3) := by decide +kernel
/-! classNumber -/
theorem dl_1427 : decode code 1427 = .ok (.aload_n 1, 1) := by decide +kernel
theorem pa_33 : dpush 1428 1 1 := by unfold dpush; decide +kernel
theorem dl_1434 : decode code 1434 = .ok (.invokevirtual 162, 3) := by decide +kernel
theorem dl_1437 : decode code 1437 = .ok (.aload_n 2, 1) := by decide +kernel
theorem pb_33 : dpush 1438 1 1 := by unfold dpush; decide +kernel
theorem dl_1444 : decode code 1444 = .ok (.invokevirtual 165, 3) := by decide +kernel
theorem dl_1447 : decode code 1447 = .ok (.if_icmp .eq 804, 3) := by decide +kernel
/-! quadratic -/
theorem dl_1452 : decode code 1452 = .ok (.aload_n 1, 1) := by decide +kernel
theorem pa_34 : dpush 1453 1 3 := by unfold dpush; decide +kernel
theorem dl_1471 : decode code 1471 = .ok (.invokevirtual 166, 3) := by decide +kernel
theorem dl_1474 : decode code 1474 = .ok (.aload_n 2, 1) := by decide +kernel
theorem pb_34 : dpush 1475 1 3 := by unfold dpush; decide +kernel
theorem dl_1493 : decode code 1493 = .ok (.invokevirtual 169, 3) := by decide +kernel
theorem dl_1496 : decode code 1496 = .ok (.lcmp, 1) := by decide +kernel
theorem dl_1497 : decode code 1497 = .ok (.ifCond .eq 754, 3) := by decide +kernel
/-! regulars -/
theorem dl_1502 : decode code 1502 = .ok (.aload_n 1, 1) := by decide +kernel
theorem pa_35 : dpush 1503 1 1 := by unfold dpush; decide +kernel
theorem dl_1509 : decode code 1509 = .ok (.invokevirtual 170, 3) := by decide +kernel
theorem dl_1512 : decode code 1512 = .ok (.aload_n 2, 1) := by decide +kernel
theorem pb_35 : dpush 1513 1 1 := by unfold dpush; decide +kernel
theorem dl_1519 : decode code 1519 = .ok (.invokevirtual 173, 3) := by decide +kernel
theorem dl_1522 : decode code 1522 = .ok (.if_icmp .eq 729, 3) := by decide +kernel
/-! coefficient -/
theorem dl_1527 : decode code 1527 = .ok (.aload_n 1, 1) := by decide +kernel
theorem pa_36 : dpush 1528 1 3 := by unfold dpush; decide +kernel
theorem dl_1546 : decode code 1546 = .ok (.invokevirtual 174, 3) := by decide +kernel
theorem dl_1549 : decode code 1549 = .ok (.aload_n 2, 1) := by decide +kernel
theorem pb_36 : dpush 1550 1 3 := by unfold dpush; decide +kernel
theorem dl_1568 : decode code 1568 = .ok (.invokevirtual 177, 3) := by decide +kernel
theorem dl_1571 : decode code 1571 = .ok (.lcmp, 1) := by decide +kernel
theorem dl_1572 : decode code 1572 = .ok (.ifCond .eq 679, 3) := by decide +kernel
/-! sum -/
theorem dl_1577 : decode code 1577 = .ok (.aload_n 1, 1) := by decide +kernel
theorem pa_37 : dpush 1578 1 2 := by unfold dpush; decide +kernel
theorem dl_1590 : decode code 1590 = .ok (.invokevirtual 178, 3) := by decide +kernel
theorem dl_1593 : decode code 1593 = .ok (.aload_n 2, 1) := by decide +kernel
theorem pb_37 : dpush 1594 1 2 := by unfold dpush; decide +kernel
theorem dl_1606 : decode code 1606 = .ok (.invokevirtual 181, 3) := by decide +kernel
theorem dl_1609 : decode code 1609 = .ok (.if_icmp .eq 642, 3) := by decide +kernel
/-! digits -/
theorem dl_1614 : decode code 1614 = .ok (.aload_n 1, 1) := by decide +kernel
theorem pa_38 : dpush 1615 1 2 := by unfold dpush; decide +kernel
theorem dl_1627 : decode code 1627 = .ok (.invokevirtual 182, 3) := by decide +kernel
theorem dl_1630 : decode code 1630 = .ok (.aload_n 2, 1) := by decide +kernel
theorem pb_38 : dpush 1631 1 2 := by unfold dpush; decide +kernel
theorem dl_1643 : decode code 1643 = .ok (.invokevirtual 185, 3) := by decide +kernel
theorem dl_1646 : decode code 1646 = .ok (.if_icmp .eq 605, 3) := by decide +kernel
/-! digit -/
theorem dl_1651 : decode code 1651 = .ok (.aload_n 1, 1) := by decide +kernel
theorem pa_39 : dpush 1652 1 3 := by unfold dpush; decide +kernel
theorem dl_1670 : decode code 1670 = .ok (.invokevirtual 186, 3) := by decide +kernel
theorem dl_1673 : decode code 1673 = .ok (.aload_n 2, 1) := by decide +kernel
theorem pb_39 : dpush 1674 1 3 := by unfold dpush; decide +kernel
theorem dl_1692 : decode code 1692 = .ok (.invokevirtual 189, 3) := by decide +kernel
theorem dl_1695 : decode code 1695 = .ok (.if_icmp .eq 556, 3) := by decide +kernel
/-! progression -/
theorem dl_1700 : decode code 1700 = .ok (.aload_n 1, 1) := by decide +kernel
theorem pa_40 : dpush 1701 1 4 := by unfold dpush; decide +kernel
theorem dl_1725 : decode code 1725 = .ok (.invokevirtual 190, 3) := by decide +kernel
theorem dl_1728 : decode code 1728 = .ok (.aload_n 2, 1) := by decide +kernel
theorem pb_40 : dpush 1729 1 4 := by unfold dpush; decide +kernel
theorem dl_1753 : decode code 1753 = .ok (.invokevirtual 194, 3) := by decide +kernel
theorem dl_1756 : decode code 1756 = .ok (.if_icmp .eq 495, 3) := by decide +kernel
/-! triangular -/
theorem dl_1761 : decode code 1761 = .ok (.aload_n 1, 1) := by decide +kernel
theorem pa_41 : dpush 1762 1 3 := by unfold dpush; decide +kernel
theorem dl_1780 : decode code 1780 = .ok (.invokevirtual 195, 3) := by decide +kernel
theorem dl_1783 : decode code 1783 = .ok (.aload_n 2, 1) := by decide +kernel
theorem pb_41 : dpush 1784 1 3 := by unfold dpush; decide +kernel
theorem dl_1802 : decode code 1802 = .ok (.invokevirtual 198, 3) := by decide +kernel
theorem dl_1805 : decode code 1805 = .ok (.lcmp, 1) := by decide +kernel
theorem dl_1806 : decode code 1806 = .ok (.ifCond .eq 445, 3) := by decide +kernel
/-! poly -/
theorem dl_1811 : decode code 1811 = .ok (.aload_n 1, 1) := by decide +kernel
theorem pa_42 : dpush 1812 1 3 := by unfold dpush; decide +kernel
theorem dl_1830 : decode code 1830 = .ok (.invokevirtual 199, 3) := by decide +kernel
theorem dl_1833 : decode code 1833 = .ok (.aload_n 2, 1) := by decide +kernel
theorem pb_42 : dpush 1834 1 3 := by unfold dpush; decide +kernel
theorem dl_1852 : decode code 1852 = .ok (.invokevirtual 202, 3) := by decide +kernel
theorem dl_1855 : decode code 1855 = .ok (.lcmp, 1) := by decide +kernel
theorem dl_1856 : decode code 1856 = .ok (.ifCond .eq 395, 3) := by decide +kernel
/-! value -/
theorem dl_1861 : decode code 1861 = .ok (.aload_n 1, 1) := by decide +kernel
theorem pa_43 : dpush 1862 1 4 := by unfold dpush; decide +kernel
theorem dl_1886 : decode code 1886 = .ok (.invokevirtual 203, 3) := by decide +kernel
theorem dl_1889 : decode code 1889 = .ok (.aload_n 2, 1) := by decide +kernel
theorem pb_43 : dpush 1890 1 4 := by unfold dpush; decide +kernel
theorem dl_1914 : decode code 1914 = .ok (.invokevirtual 207, 3) := by decide +kernel
theorem dl_1917 : decode code 1917 = .ok (.lcmp, 1) := by decide +kernel
theorem dl_1918 : decode code 1918 = .ok (.ifCond .eq 333, 3) := by decide +kernel
/-! at -/
theorem dl_1923 : decode code 1923 = .ok (.aload_n 1, 1) := by decide +kernel
theorem pa_44 : dpush 1924 1 3 := by unfold dpush; decide +kernel
theorem dl_1942 : decode code 1942 = .ok (.invokevirtual 208, 3) := by decide +kernel
theorem dl_1945 : decode code 1945 = .ok (.aload_n 2, 1) := by decide +kernel
theorem pb_44 : dpush 1946 1 3 := by unfold dpush; decide +kernel
theorem dl_1964 : decode code 1964 = .ok (.invokevirtual 211, 3) := by decide +kernel
theorem dl_1967 : decode code 1967 = .ok (.if_icmp .eq 284, 3) := by decide +kernel
/-! roots -/
theorem dl_1972 : decode code 1972 = .ok (.aload_n 1, 1) := by decide +kernel
theorem pa_45 : dpush 1973 1 2 := by unfold dpush; decide +kernel
theorem dl_1985 : decode code 1985 = .ok (.invokevirtual 212, 3) := by decide +kernel
theorem dl_1988 : decode code 1988 = .ok (.aload_n 2, 1) := by decide +kernel
theorem pb_45 : dpush 1989 1 2 := by unfold dpush; decide +kernel
theorem dl_2001 : decode code 2001 = .ok (.invokevirtual 215, 3) := by decide +kernel
theorem dl_2004 : decode code 2004 = .ok (.if_icmp .eq 247, 3) := by decide +kernel
/-! zeta -/
theorem dl_2009 : decode code 2009 = .ok (.aload_n 1, 1) := by decide +kernel
theorem pa_46 : dpush 2010 1 2 := by unfold dpush; decide +kernel
theorem dl_2022 : decode code 2022 = .ok (.invokevirtual 216, 3) := by decide +kernel
theorem dl_2025 : decode code 2025 = .ok (.aload_n 2, 1) := by decide +kernel
theorem pb_46 : dpush 2026 1 2 := by unfold dpush; decide +kernel
theorem dl_2038 : decode code 2038 = .ok (.invokevirtual 219, 3) := by decide +kernel
theorem dl_2041 : decode code 2041 = .ok (.lcmp, 1) := by decide +kernel
theorem dl_2042 : decode code 2042 = .ok (.ifCond .eq 209, 3) := by decide +kernel
/-! genocchi -/
theorem dl_2047 : decode code 2047 = .ok (.aload_n 1, 1) := by decide +kernel
theorem pa_47 : dpush 2048 1 1 := by unfold dpush; decide +kernel
theorem dl_2054 : decode code 2054 = .ok (.invokevirtual 220, 3) := by decide +kernel
theorem dl_2057 : decode code 2057 = .ok (.aload_n 2, 1) := by decide +kernel
theorem pb_47 : dpush 2058 1 1 := by unfold dpush; decide +kernel
theorem dl_2064 : decode code 2064 = .ok (.invokevirtual 223, 3) := by decide +kernel
theorem dl_2067 : decode code 2067 = .ok (.lcmp, 1) := by decide +kernel
theorem dl_2068 : decode code 2068 = .ok (.ifCond .eq 183, 3) := by decide +kernel
/-! onto -/
theorem dl_2073 : decode code 2073 = .ok (.aload_n 1, 1) := by decide +kernel
theorem pa_48 : dpush 2074 1 2 := by unfold dpush; decide +kernel
theorem dl_2086 : decode code 2086 = .ok (.invokevirtual 224, 3) := by decide +kernel
theorem dl_2089 : decode code 2089 = .ok (.aload_n 2, 1) := by decide +kernel
theorem pb_48 : dpush 2090 1 2 := by unfold dpush; decide +kernel
theorem dl_2102 : decode code 2102 = .ok (.invokevirtual 227, 3) := by decide +kernel
theorem dl_2105 : decode code 2105 = .ok (.lcmp, 1) := by decide +kernel
theorem dl_2106 : decode code 2106 = .ok (.ifCond .eq 145, 3) := by decide +kernel
/-! byBoxes -/
theorem dl_2111 : decode code 2111 = .ok (.aload_n 1, 1) := by decide +kernel
theorem pa_49 : dpush 2112 1 2 := by unfold dpush; decide +kernel
theorem dl_2124 : decode code 2124 = .ok (.invokevirtual 228, 3) := by decide +kernel
theorem dl_2127 : decode code 2127 = .ok (.aload_n 2, 1) := by decide +kernel
theorem pb_49 : dpush 2128 1 2 := by unfold dpush; decide +kernel
theorem dl_2140 : decode code 2140 = .ok (.invokevirtual 231, 3) := by decide +kernel
theorem dl_2143 : decode code 2143 = .ok (.lcmp, 1) := by decide +kernel
theorem dl_2144 : decode code 2144 = .ok (.ifCond .eq 107, 3) := by decide +kernel
/-! zigzag -/
theorem dl_2149 : decode code 2149 = .ok (.aload_n 1, 1) := by decide +kernel
theorem pa_50 : dpush 2150 1 1 := by unfold dpush; decide +kernel
theorem dl_2156 : decode code 2156 = .ok (.invokevirtual 232, 3) := by decide +kernel
theorem dl_2159 : decode code 2159 = .ok (.aload_n 2, 1) := by decide +kernel
theorem pb_50 : dpush 2160 1 1 := by unfold dpush; decide +kernel
theorem dl_2166 : decode code 2166 = .ok (.invokevirtual 235, 3) := by decide +kernel
theorem dl_2169 : decode code 2169 = .ok (.lcmp, 1) := by decide +kernel
theorem dl_2170 : decode code 2170 = .ok (.ifCond .eq 81, 3) := by decide +kernel
/-! tangent -/
theorem dl_2175 : decode code 2175 = .ok (.aload_n 1, 1) := by decide +kernel
theorem pa_51 : dpush 2176 1 1 := by unfold dpush; decide +kernel
theorem dl_2182 : decode code 2182 = .ok (.invokevirtual 236, 3) := by decide +kernel
theorem dl_2185 : decode code 2185 = .ok (.aload_n 2, 1) := by decide +kernel
theorem pb_51 : dpush 2186 1 1 := by unfold dpush; decide +kernel
theorem dl_2192 : decode code 2192 = .ok (.invokevirtual 239, 3) := by decide +kernel
theorem dl_2195 : decode code 2195 = .ok (.lcmp, 1) := by decide +kernel
theorem dl_2196 : decode code 2196 = .ok (.ifCond .eq 55, 3) := by decide +kernel
/-! growth -/
theorem dl_2201 : decode code 2201 = .ok (.aload_n 1, 1) := by decide +kernel
theorem pa_52 : dpush 2202 1 1 := by unfold dpush; decide +kernel
theorem dl_2208 : decode code 2208 = .ok (.invokevirtual 240, 3) := by decide +kernel
theorem dl_2211 : decode code 2211 = .ok (.aload_n 2, 1) := by decide +kernel
theorem pb_52 : dpush 2212 1 1 := by unfold dpush; decide +kernel
theorem dl_2218 : decode code 2218 = .ok (.invokevirtual 243, 3) := by decide +kernel
theorem dl_2221 : decode code 2221 = .ok (.if_icmp .eq 30, 3) := by decide +kernel
/-! count -/
theorem dl_2226 : decode code 2226 = .ok (.aload_n 1, 1) := by decide +kernel
theorem pa_53 : dpush 2227 1 1 := by unfold dpush; decide +kernel
theorem dl_2233 : decode code 2233 = .ok (.invokevirtual 244, 3) := by decide +kernel
theorem dl_2236 : decode code 2236 = .ok (.aload_n 2, 1) := by decide +kernel
theorem pb_53 : dpush 2237 1 1 := by unfold dpush; decide +kernel
theorem dl_2243 : decode code 2243 = .ok (.invokevirtual 247, 3) := by decide +kernel
theorem dl_2246 : decode code 2246 = .ok (.if_icmp .eq 5, 3) := by decide +kernel
theorem dl_404 : decode code 404 = .ok (.aload_n 1, 1) := by decide +kernel
theorem dl_405 : decode code 405 = .ok (.aload_n 0, 1) := by decide +kernel
theorem dl_406 : decode code 406 = .ok (.iload 4, 2) := by decide +kernel
theorem dl_408 : decode code 408 = .ok (.iconst 1, 1) := by decide +kernel
theorem dl_409 : decode code 409 = .ok (.iadd, 1) := by decide +kernel
theorem dl_410 : decode code 410 = .ok (.iaload, 1) := by decide +kernel
theorem dl_411 : decode code 411 = .ok (.aload_n 0, 1) := by decide +kernel
theorem dl_412 : decode code 412 = .ok (.iload 4, 2) := by decide +kernel
theorem dl_414 : decode code 414 = .ok (.iconst 2, 1) := by decide +kernel
theorem dl_415 : decode code 415 = .ok (.iadd, 1) := by decide +kernel
theorem dl_416 : decode code 416 = .ok (.iaload, 1) := by decide +kernel
theorem dl_417 : decode code 417 = .ok (.aload_n 3, 1) := by decide +kernel
theorem dl_418 : decode code 418 = .ok (.invokestatic 37, 3) := by decide +kernel
theorem dl_421 : decode code 421 = .ok (.istore 5, 2) := by decide +kernel
theorem dl_423 : decode code 423 = .ok (.aload_n 2, 1) := by decide +kernel
theorem dl_424 : decode code 424 = .ok (.aload_n 0, 1) := by decide +kernel
theorem dl_425 : decode code 425 = .ok (.iload 4, 2) := by decide +kernel
theorem dl_427 : decode code 427 = .ok (.iconst 1, 1) := by decide +kernel
theorem dl_428 : decode code 428 = .ok (.iadd, 1) := by decide +kernel
theorem dl_429 : decode code 429 = .ok (.iaload, 1) := by decide +kernel
theorem dl_430 : decode code 430 = .ok (.aload_n 0, 1) := by decide +kernel
theorem dl_431 : decode code 431 = .ok (.iload 4, 2) := by decide +kernel
theorem dl_433 : decode code 433 = .ok (.iconst 2, 1) := by decide +kernel
theorem dl_434 : decode code 434 = .ok (.iadd, 1) := by decide +kernel
theorem dl_435 : decode code 435 = .ok (.iaload, 1) := by decide +kernel
theorem dl_436 : decode code 436 = .ok (.invokevirtual 42, 3) := by decide +kernel
theorem dl_439 : decode code 439 = .ok (.lstore 6, 2) := by decide +kernel
theorem dl_441 : decode code 441 = .ok (.aload_n 2, 1) := by decide +kernel
theorem dl_442 : decode code 442 = .ok (.invokevirtual 43, 3) := by decide +kernel
theorem dl_445 : decode code 445 = .ok (.iload 5, 2) := by decide +kernel
theorem dl_447 : decode code 447 = .ok (.if_icmp .eq 5, 3) := by decide +kernel
theorem dl_450 : decode code 450 = .ok (.iconst 0, 1) := by decide +kernel
theorem dl_451 : decode code 451 = .ok (.ireturn, 1) := by decide +kernel
theorem dl_452 : decode code 452 = .ok (.iload 5, 2) := by decide +kernel
theorem dl_454 : decode code 454 = .ok (.ifCond .ne 14, 3) := by decide +kernel
theorem dl_457 : decode code 457 = .ok (.aload_n 3, 1) := by decide +kernel
theorem dl_458 : decode code 458 = .ok (.iconst 0, 1) := by decide +kernel
theorem dl_459 : decode code 459 = .ok (.laload, 1) := by decide +kernel
theorem dl_460 : decode code 460 = .ok (.lload 6, 2) := by decide +kernel
theorem dl_462 : decode code 462 = .ok (.lcmp, 1) := by decide +kernel
theorem dl_463 : decode code 463 = .ok (.ifCond .eq 5, 3) := by decide +kernel
theorem dl_466 : decode code 466 = .ok (.iconst 0, 1) := by decide +kernel
theorem dl_467 : decode code 467 = .ok (.ireturn, 1) := by decide +kernel
theorem dl_468 : decode code 468 = .ok (.goto 1783, 3) := by decide +kernel
