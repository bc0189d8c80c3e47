/-! tables by program: which field a pool number names, constants, facts of the classes -/
def xnm : Nat → String
  | 0 => "NoonRinger$Hearsay"
  | 1 => "NoonRinger$Judge"
  | 2 => "NoonRinger$Laws"
  | 3 => "NoonRinger$Reader"
  | 4 => "NoonRinger$Realm"
  | 5 => "NoonRinger$Shelf"
  | 6 => "NoonRinger$State"
  | 7 => "NoonRinger$Survey"
  | 8 => "NoonRinger$Tape"
  | 9 => "NoonRinger$Tokens"
  | 10 => "NoonRinger$Ways"
  | 11 => "NoonRinger"
  | 12 => "NoonRingerModel"
  | 13 => "NoonRingerLaw"
  | 14 => "java/lang/Character"
  | 15 => "java/lang/Integer"
  | 16 => "java/lang/Math"
  | 17 => "java/lang/String"
  | 18 => "java/lang/StringLatin1"
  | 19 => "java/lang/StringUTF16"
  | 20 => "jdk/internal/util/Preconditions"
  | _ => ""
def xFT : List (Nat × Nat × Nat × Nat × Nat) := [(0, 11, 0, 2, 424), (0, 15, 0, 3, 425), (0, 19, 0, 4, 426), (0, 22, 0, 0, 422), (0, 26, 0, 1, 423), (0, 30, 0, 5, 427), (1, 11, 1, 2, 385), (1, 17, 1, 0, 383), (1, 21, 1, 1, 384), (2, 13, 2, 0, 167), (2, 17, 2, 1, 168), (2, 20, 2, 2, 169), (2, 23, 2, 3, 170), (2, 26, 2, 4, 171), (3, 14, 3, 1, 318), (3, 21, 3, 2, 319), (3, 25, 3, 3, 320), (3, 29, 3, 0, 317), (3, 33, 3, 6, 323), (3, 37, 3, 5, 322), (3, 44, 3, 7, 324), (3, 47, 3, 8, 325), (3, 159, 3, 4, 321), (4, 9, 4, 0, 185), (4, 15, 4, 1, 186), (4, 19, 4, 2, 187), (4, 22, 4, 3, 188), (4, 25, 4, 4, 189), (4, 28, 4, 5, 190), (4, 31, 4, 6, 191), (4, 34, 4, 7, 192), (4, 40, 4, 8, 193), (4, 44, 4, 9, 194), (4, 48, 4, 10, 195), (4, 51, 4, 11, 196), (4, 54, 4, 12, 197), (4, 57, 4, 13, 198), (5, 15, 5, 0, 412), (6, 11, 6, 0, 399), (7, 11, 7, 2, 369), (7, 15, 7, 0, 367), (7, 19, 7, 1, 368), (8, 9, 8, 0, 147), (8, 13, 8, 1, 148), (9, 9, 9, 0, 296), (9, 13, 9, 1, 297), (9, 16, 9, 2, 298), (9, 20, 9, 3, 299), (9, 47, 9, 4, 300), (9, 55, 9, 5, 301), (10, 9, 10, 1, 352), (10, 15, 10, 0, 351), (10, 19, 10, 2, 353), (11, 10, 11, 0, 547), (11, 19, 11, 1, 548), (11, 28, 11, 2, 549), (11, 37, 11, 3, 550), (11, 41, 11, 4, 551), (11, 49, 11, 5, 552), (11, 56, 11, 6, 553), (11, 60, 11, 7, 554), (11, 66, 11, 8, 555), (11, 70, 11, 9, 556), (11, 78, 11, 10, 557), (11, 82, 11, 11, 558), (11, 90, 11, 12, 559), (11, 94, 11, 16, 563), (11, 143, 11, 13, 560), (11, 146, 11, 15, 562), (11, 231, 11, 14, 561), (12, 13, 12, 1, 1378), (12, 17, 12, 3, 1380), (12, 20, 12, 5, 1382), (12, 24, 12, 6, 1383), (12, 27, 12, 7, 1384), (12, 30, 12, 8, 1385), (12, 34, 12, 9, 1386), (12, 37, 12, 17, 1394), (12, 40, 12, 21, 1398), (12, 43, 12, 22, 1399), (12, 46, 12, 23, 1400), (12, 49, 12, 24, 1401), (12, 52, 12, 25, 1402), (12, 55, 12, 26, 1403), (12, 58, 12, 27, 1404), (12, 61, 12, 28, 1405), (12, 64, 12, 29, 1406), (12, 67, 12, 30, 1407), (12, 70, 12, 31, 1408), (12, 73, 12, 32, 1409), (12, 76, 12, 33, 1410), (12, 79, 12, 34, 1411), (12, 82, 12, 35, 1412), (12, 85, 12, 37, 1414), (12, 89, 12, 38, 1415), (12, 92, 12, 39, 1416), (12, 95, 12, 40, 1417), (12, 98, 12, 41, 1418), (12, 101, 12, 43, 1420), (12, 104, 12, 44, 1421), (12, 107, 12, 45, 1422), (12, 110, 12, 47, 1424), (12, 113, 12, 48, 1425), (12, 116, 12, 50, 1427), (12, 119, 12, 51, 1428), (12, 122, 12, 54, 1431), (12, 125, 12, 56, 1433), (12, 128, 12, 57, 1434), (12, 131, 12, 59, 1436), (12, 134, 12, 60, 1437), (12, 137, 12, 61, 1438), (12, 140, 12, 62, 1439), (12, 143, 12, 63, 1440), (12, 160, 12, 2, 1379), (12, 166, 12, 4, 1381), (12, 175, 12, 10, 1387), (12, 197, 12, 13, 1390), (12, 200, 12, 11, 1388), (12, 203, 12, 14, 1391), (12, 206, 12, 15, 1392), (12, 209, 12, 16, 1393), (12, 224, 12, 12, 1389), (12, 227, 12, 18, 1395), (12, 230, 12, 19, 1396), (12, 233, 12, 20, 1397), (12, 236, 12, 36, 1413), (12, 239, 12, 42, 1419), (12, 245, 12, 55, 1432), (12, 248, 12, 58, 1435), (12, 290, 12, 46, 1423), (12, 303, 12, 49, 1426), (12, 311, 12, 52, 1429), (12, 314, 12, 53, 1430)]
def xCT : List (Nat × Nat × Int32 × Nat) := [(1, 139, 1103515245, 1063), (1, 144, 99999, 1071), (12, 323, 1103515245, 1859), (12, 406, 99999, 1860), (14, 76, 56320, 700), (14, 110, 55232, 696), (15, 265, 1431655765, 977), (15, 266, 858993459, 978), (15, 267, 252645135, 979), (19, 227, 65536, 671)]
def xCL : List (Nat × Nat × Int64 × Nat) := [(9, 45, 27, 295), (9, 105, 10, 722), (12, 169, 27, 1369)]
def xftk (e : Nat × Nat × Nat × Nat × Nat) : Bool := match vwCl[e.2.2.1]? with
  | some (C, T, N) => decide (e.2.2.2.1 < N) && decide (lw_tbl[e.2.2.2.2]? = some (.fieldLink (xnm e.1) e.2.1 C (T e.2.2.2.1).2.1 (T e.2.2.2.1).2.2.1)) && decide ((T e.2.2.2.1).1 = C) && goodWord (.fieldLink (xnm e.1) e.2.1 C (T e.2.2.2.1).2.1 (T e.2.2.2.1).2.2.1)
  | none => false
theorem xFT_ok : xFT.all xftk = true := by decide +kernel
theorem xCT_ok : xCT.all (fun e => decide (lw_tbl[e.2.2.2]? = some (.constant (xnm e.1) e.2.1 e.2.2.1)) && goodWord (.constant (xnm e.1) e.2.1 e.2.2.1)) = true := by decide +kernel
theorem xCL_ok : xCL.all (fun e => decide (lw_tbl[e.2.2.2]? = some (.constantLong (xnm e.1) e.2.1 e.2.2.1)) && goodWord (.constantLong (xnm e.1) e.2.1 e.2.2.1)) = true := by decide +kernel
theorem xin_of (ws : List Cond) (ps : List Nat) (h : (ws.length == ps.length && (ws.zip ps).all (fun q => decide (lw_tbl[q.2]? = some q.1) && goodWord q.1)) = true) : ∀ w ∈ ws, w ∈ xTT := by
  intro w hw
  simp only [Bool.and_eq_true, beq_iff_eq, List.all_eq_true] at h
  obtain ⟨i, hi, rfl⟩ := List.getElem_of_mem hw
  have h2 := h.2 (ws[i], ps[i]'(h.1 ▸ hi)) (List.mem_iff_getElem.mpr ⟨i, by simp [List.length_zip, h.1 ▸ hi]; omega, by simp⟩)
  simp only [decide_eq_true_eq] at h2
  exact xTT_of _ h2
theorem inX0 : ∀ w ∈ u_ws RX0 TX0 6, w ∈ xTT := xin_of _ [428, 430, 432, 434, 436, 438] (by decide +kernel)
theorem inX1 : ∀ w ∈ u_ws RX1 TX1 3, w ∈ xTT := xin_of _ [386, 388, 390] (by decide +kernel)
theorem inX2 : ∀ w ∈ u_ws RX2 TX2 5, w ∈ xTT := xin_of _ [172, 174, 176, 178, 180] (by decide +kernel)
theorem inX3 : ∀ w ∈ u_ws RX3 TX3 9, w ∈ xTT := xin_of _ [326, 328, 330, 332, 334, 336, 338, 340, 342] (by decide +kernel)
theorem inX4 : ∀ w ∈ u_ws RX4 TX4 14, w ∈ xTT := xin_of _ [199, 201, 203, 205, 207, 209, 211, 213, 215, 217, 219, 221, 223, 225] (by decide +kernel)
theorem inX5 : ∀ w ∈ u_ws RX5 TX5 1, w ∈ xTT := xin_of _ [413] (by decide +kernel)
theorem inX6 : ∀ w ∈ u_ws RX6 TX6 1, w ∈ xTT := xin_of _ [400] (by decide +kernel)
theorem inX7 : ∀ w ∈ u_ws RX7 TX7 3, w ∈ xTT := xin_of _ [370, 372, 374] (by decide +kernel)
theorem inX8 : ∀ w ∈ u_ws RX8 TX8 2, w ∈ xTT := xin_of _ [149, 151] (by decide +kernel)
theorem inX9 : ∀ w ∈ u_ws RX9 TX9 6, w ∈ xTT := xin_of _ [302, 304, 306, 308, 310, 312] (by decide +kernel)
theorem inX10 : ∀ w ∈ u_ws RX10 TX10 3, w ∈ xTT := xin_of _ [354, 356, 358] (by decide +kernel)
theorem inX11 : ∀ w ∈ u_ws RX11 TX11 17, w ∈ xTT := xin_of _ [564, 566, 568, 570, 572, 574, 576, 578, 580, 582, 584, 586, 588, 590, 592, 594, 596] (by decide +kernel)
theorem inX12 : ∀ w ∈ u_ws RX12 TX12 64, w ∈ xTT := xin_of _ [1441, 1443, 1445, 1447, 1449, 1451, 1453, 1455, 1457, 1459, 1461, 1463, 1465, 1467, 1469, 1471, 1473, 1475, 1477, 1479, 1481, 1483, 1485, 1487, 1489, 1491, 1493, 1495, 1497, 1499, 1501, 1503, 1505, 1507, 1509, 1511, 1513, 1515, 1517, 1519, 1521, 1523, 1525, 1527, 1529, 1531, 1533, 1535, 1537, 1539, 1541, 1543, 1545, 1547, 1549, 1551, 1553, 1555, 1557, 1559, 1561, 1563, 1565, 1567] (by decide +kernel)
theorem xcl {ci : Nat} {C : String} {T : u_T} {N : Nat} (h : vwCl[ci]? = some (C, T, N)) : (∃ ty0 : Nat → FieldType, ∀ k, k < N → parseFieldDescriptor (T k).2.2.1 = some (ty0 k)) ∧ (∀ a, a < N → ∀ b, b < N → a ≠ b → (T a).2.1 ≠ (T b).2.1) ∧ ∀ w ∈ u_ws C T N, w ∈ xTT := by
  match ci, h with
  | 0, h => cases h; exact ⟨⟨tyX0, tyX0_ok⟩, nmX0, inX0⟩
  | 1, h => cases h; exact ⟨⟨tyX1, tyX1_ok⟩, nmX1, inX1⟩
  | 2, h => cases h; exact ⟨⟨tyX2, tyX2_ok⟩, nmX2, inX2⟩
  | 3, h => cases h; exact ⟨⟨tyX3, tyX3_ok⟩, nmX3, inX3⟩
  | 4, h => cases h; exact ⟨⟨tyX4, tyX4_ok⟩, nmX4, inX4⟩
  | 5, h => cases h; exact ⟨⟨tyX5, tyX5_ok⟩, nmX5, inX5⟩
  | 6, h => cases h; exact ⟨⟨tyX6, tyX6_ok⟩, nmX6, inX6⟩
  | 7, h => cases h; exact ⟨⟨tyX7, tyX7_ok⟩, nmX7, inX7⟩
  | 8, h => cases h; exact ⟨⟨tyX8, tyX8_ok⟩, nmX8, inX8⟩
  | 9, h => cases h; exact ⟨⟨tyX9, tyX9_ok⟩, nmX9, inX9⟩
  | 10, h => cases h; exact ⟨⟨tyX10, tyX10_ok⟩, nmX10, inX10⟩
  | 11, h => cases h; exact ⟨⟨tyX11, tyX11_ok⟩, nmX11, inX11⟩
  | 12, h => cases h; exact ⟨⟨tyX12, tyX12_ok⟩, nmX12, inX12⟩
  | n + 13, h => simp [vwCl] at h
