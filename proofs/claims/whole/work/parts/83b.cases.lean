-- THE LAW'S LOOP: CASES
def TW_20 : Q_T := [(1279, .aload_n 1, 1280, 0), (1280, .invokevirtual 216, 1283, 0), (1283, .aload_n 2, 1284, 0), (1284, .invokevirtual 219, 1287, 0), (1287, .if_icmp .eq 1613, 1290, 2900), (1290, .iconst 0, 1291, 0), (1291, .ireturn, 1292, 0)]
set_option maxRecDepth 100000 in
theorem hW_20 : q_chk 10 9 13 474 code TW_20 = true := lw_sub 614 7 rfl
set_option maxRecDepth 100000 in
theorem wk_20 {l : Launch} (hl0 : l.stackTraces = false) {L : Nat} {xs : Nat → Int32} {Z : Q_Z} (hz : LW_hz l L xs Z) {c z i : Nat} {M : Q_M} (hi : LI c M) (hiL : i + 2 < L) (hzz : z + 4 ≤ 601024) (h512 : c ≤ 512) (hE : LW_E c z i Z) : Z z 1279 (lw_l i) [] M := by
  apply hz TW_20 hW_20 [1280] 60
  refine lw_cV hz (T := TW_20) hW_20 (pc := 1280) (idx := 216) (j := 87) (na := 1) (bj := 0) rfl rfl rfl rfl rfl (by omega) (q_C2i rfl (cX8_savedStates_ct hl0)) ?_
  refine jd_savedStates hi _ _ (fun v M1 hR => ?_)
  apply hz TW_20 hW_20 [1284] 60
  refine lw_cV hz (T := TW_20) hW_20 (pc := 1284) (idx := 219) (j := 208) (na := 1) (bj := 0) rfl rfl rfl rfl rfl (by omega) (q_C2i rfl (cX9_savedStates_ct hl0)) ?_
  refine hR _ _ (fun M2 hLI => ?_)
  apply hz TW_20 hW_20 [2900] 60
  exact And.intro (fun _ => hE _ _ _ (by omega) w_l0 hLI) (fun g => absurd rfl g)
def TW_21 : Q_T := [(1292, .aload_n 1, 1293, 0), (1293, .invokevirtual 220, 1296, 0), (1296, .aload_n 2, 1297, 0), (1297, .invokevirtual 223, 1300, 0), (1300, .if_icmp .eq 1600, 1303, 2900), (1303, .iconst 0, 1304, 0), (1304, .ireturn, 1305, 0)]
set_option maxRecDepth 100000 in
theorem hW_21 : q_chk 10 9 13 474 code TW_21 = true := lw_sub 621 7 rfl
set_option maxRecDepth 100000 in
theorem wk_21 {l : Launch} (hl0 : l.stackTraces = false) {L : Nat} {xs : Nat → Int32} {Z : Q_Z} (hz : LW_hz l L xs Z) {c z i : Nat} {M : Q_M} (hi : LI c M) (hiL : i + 2 < L) (hzz : z + 4 ≤ 601024) (h512 : c ≤ 512) (hE : LW_E c z i Z) : Z z 1292 (lw_l i) [] M := by
  apply hz TW_21 hW_21 [1293] 60
  refine lw_cV hz (T := TW_21) hW_21 (pc := 1293) (idx := 220) (j := 88) (na := 1) (bj := 0) rfl rfl rfl rfl rfl (by omega) (q_C2i rfl (cX8_livingByGoing_ct hl0)) ?_
  refine jd_livingByGoing hi _ _ (fun v M1 hR => ?_)
  apply hz TW_21 hW_21 [1297] 60
  refine lw_cV hz (T := TW_21) hW_21 (pc := 1297) (idx := 223) (j := 210) (na := 1) (bj := 0) rfl rfl rfl rfl rfl (by omega) (q_C2i rfl (cX9_livingByGoing_ct hl0)) ?_
  refine hR _ _ (fun M2 hLI => ?_)
  apply hz TW_21 hW_21 [2900] 60
  exact And.intro (fun _ => hE _ _ _ (by omega) w_l0 hLI) (fun g => absurd rfl g)
def TW_22 : Q_T := [(1305, .aload_n 1, 1306, 0), (1306, .invokevirtual 224, 1309, 0), (1309, .aload_n 2, 1310, 0), (1310, .invokevirtual 227, 1313, 0), (1313, .if_icmp .eq 1587, 1316, 2900), (1316, .iconst 0, 1317, 0), (1317, .ireturn, 1318, 0)]
set_option maxRecDepth 100000 in
theorem hW_22 : q_chk 10 9 13 474 code TW_22 = true := lw_sub 628 7 rfl
set_option maxRecDepth 100000 in
theorem wk_22 {l : Launch} (hl0 : l.stackTraces = false) {L : Nat} {xs : Nat → Int32} {Z : Q_Z} (hz : LW_hz l L xs Z) {c z i : Nat} {M : Q_M} (hi : LI c M) (hiL : i + 2 < L) (hzz : z + 4 ≤ 601024) (h512 : c ≤ 512) (hE : LW_E c z i Z) : Z z 1305 (lw_l i) [] M := by
  apply hz TW_22 hW_22 [1306] 60
  refine lw_cV hz (T := TW_22) hW_22 (pc := 1306) (idx := 224) (j := 89) (na := 1) (bj := 0) rfl rfl rfl rfl rfl (by omega) (q_C2i rfl (cX8_livingByAccount_ct hl0)) ?_
  refine jd_livingByAccount hi _ _ (fun v M1 hR => ?_)
  apply hz TW_22 hW_22 [1310] 60
  refine lw_cV hz (T := TW_22) hW_22 (pc := 1310) (idx := 227) (j := 212) (na := 1) (bj := 0) rfl rfl rfl rfl rfl (by omega) (q_C2i rfl (cX9_livingByAccount_ct hl0)) ?_
  refine hR _ _ (fun M2 hLI => ?_)
  apply hz TW_22 hW_22 [2900] 60
  exact And.intro (fun _ => hE _ _ _ (by omega) w_l0 hLI) (fun g => absurd rfl g)
def TW_23 : Q_T := [(1318, .aload_n 1, 1319, 0), (1319, .aload_n 0, 1320, 0), (1320, .iload 4, 1322, 0), (1322, .iconst 1, 1323, 0), (1323, .iadd, 1324, 0), (1324, .iaload, 1325, 0), (1325, .aload_n 3, 1326, 0), (1326, .invokestatic 228, 1329, 0), (1329, .istore 5, 1331, 0), (1331, .aload_n 2, 1332, 0), (1332, .aload_n 0, 1333, 0), (1333, .iload 4, 1335, 0), (1335, .iconst 1, 1336, 0), (1336, .iadd, 1337, 0), (1337, .iaload, 1338, 0), (1338, .invokevirtual 230, 1341, 0), (1341, .istore 6, 1343, 0), (1343, .aload_n 2, 1344, 0), (1344, .invokevirtual 148, 1347, 0), (1347, .iload 5, 1349, 0), (1349, .if_icmp .eq 5, 1352, 1354), (1352, .iconst 0, 1353, 0), (1353, .ireturn, 1354, 0), (1354, .iload 5, 1356, 0), (1356, .ifCond .ne 15, 1359, 1371), (1359, .aload_n 3, 1360, 0), (1360, .iconst 0, 1361, 0), (1361, .laload, 1362, 0), (1362, .iload 6, 1364, 0), (1364, .i2l, 1365, 0), (1365, .lcmp, 1366, 0), (1366, .ifCond .eq 5, 1369, 1371), (1369, .iconst 0, 1370, 0), (1370, .ireturn, 1371, 0), (1371, .goto 1529, 1374, 2900)]
set_option maxRecDepth 100000 in
theorem hW_23 : q_chk 10 9 13 474 code TW_23 = true := lw_sub 635 35 rfl
set_option maxRecDepth 100000 in
theorem wk_23 {l : Launch} (hl0 : l.stackTraces = false) {L : Nat} {xs : Nat → Int32} {Z : Q_Z} (hz : LW_hz l L xs Z) {c z i : Nat} {M : Q_M} (hi : LI c M) (hiL : i + 2 < L) (hzz : z + 4 ≤ 601024) (h512 : c ≤ 512) (hE : LW_E c z i Z) : Z z 1318 (lw_l i) [] M := by
  apply hz TW_23 hW_23 [1326] 60
  refine Exists.intro (i + 1) ⟨rfl, nI_add i 1, (show i + 1 < L by omega), ?_⟩
  refine lw_cS hz (T := TW_23) hW_23 (pc := 1326) (idx := 228) (j := 281) (na := 3) (bj := 1) rfl rfl rfl rfl rfl (by omega) (Or.inr ⟨by decide, by decide, cL_numberAt_ct hl0⟩) ?_
  refine jw_numberAt hi _ _ _ (fun k M1 hk hR => ?_)
  apply hz TW_23 hW_23 [1338] 60
  refine Exists.intro (i + 1) ⟨rfl, nI_add i 1, (show i + 1 < L by omega), ?_⟩
  refine lw_cV hz (T := TW_23) hW_23 (pc := 1338) (idx := 230) (j := 214) (na := 2) (bj := 0) rfl rfl rfl rfl rfl (by omega) (q_C2i rfl (cX9_numberAt_ct hl0)) ?_
  refine hR _ _ (fun b M2 h3 hzb ho hLI => ?_)
  apply hz TW_23 hW_23 [1344] 60
  refine lw_cV hz (T := TW_23) hW_23 (pc := 1344) (idx := 148) (j := 146) (na := 1) (bj := 0) rfl rfl rfl rfl rfl (by omega) (q_C2i rfl (cX9_thrown_ct hl0)) ⟨rfl, ?_⟩
  apply hz TW_23 hW_23 [2900] 60
  refine And.intro (fun _ => ?_) (fun g => absurd h3 g)
  refine And.intro (fun g0 => ?_) (fun _ => hE _ _ _ (by omega) w_l2 hLI)
  refine Exists.intro 0 ⟨rfl, by decide, ?_⟩
  exact And.intro (fun _ => hE _ _ _ (by omega) w_l2 hLI) (fun g => absurd (w_cmp (ho (w_k0 hk g0))) g)
def TW_24 : Q_T := [(1374, .aload_n 1, 1375, 0), (1375, .aload_n 0, 1376, 0), (1376, .iload 4, 1378, 0), (1378, .iconst 1, 1379, 0), (1379, .iadd, 1380, 0), (1380, .iaload, 1381, 0), (1381, .aload_n 3, 1382, 0), (1382, .invokestatic 231, 1385, 0), (1385, .istore 5, 1387, 0), (1387, .aload_n 2, 1388, 0), (1388, .aload_n 0, 1389, 0), (1389, .iload 4, 1391, 0), (1391, .iconst 1, 1392, 0), (1392, .iadd, 1393, 0), (1393, .iaload, 1394, 0), (1394, .invokevirtual 233, 1397, 0), (1397, .istore 6, 1399, 0), (1399, .aload_n 2, 1400, 0), (1400, .invokevirtual 148, 1403, 0), (1403, .iload 5, 1405, 0), (1405, .if_icmp .eq 5, 1408, 1410), (1408, .iconst 0, 1409, 0), (1409, .ireturn, 1410, 0), (1410, .iload 5, 1412, 0), (1412, .ifCond .ne 15, 1415, 1427), (1415, .aload_n 3, 1416, 0), (1416, .iconst 0, 1417, 0), (1417, .laload, 1418, 0), (1418, .iload 6, 1420, 0), (1420, .i2l, 1421, 0), (1421, .lcmp, 1422, 0), (1422, .ifCond .eq 5, 1425, 1427), (1425, .iconst 0, 1426, 0), (1426, .ireturn, 1427, 0), (1427, .goto 1473, 1430, 2900)]
set_option maxRecDepth 100000 in
theorem hW_24 : q_chk 10 9 13 474 code TW_24 = true := lw_sub 670 35 rfl
set_option maxRecDepth 100000 in
theorem wk_24 {l : Launch} (hl0 : l.stackTraces = false) {L : Nat} {xs : Nat → Int32} {Z : Q_Z} (hz : LW_hz l L xs Z) {c z i : Nat} {M : Q_M} (hi : LI c M) (hiL : i + 2 < L) (hzz : z + 4 ≤ 601024) (h512 : c ≤ 512) (hE : LW_E c z i Z) : Z z 1374 (lw_l i) [] M := by
  apply hz TW_24 hW_24 [1382] 60
  refine Exists.intro (i + 1) ⟨rfl, nI_add i 1, (show i + 1 < L by omega), ?_⟩
  refine lw_cS hz (T := TW_24) hW_24 (pc := 1382) (idx := 231) (j := 282) (na := 3) (bj := 1) rfl rfl rfl rfl rfl (by omega) (Or.inr ⟨by decide, by decide, cL_ageAt_ct hl0⟩) ?_
  refine jw_ageAt hi _ _ _ (fun k M1 hk hR => ?_)
  apply hz TW_24 hW_24 [1394] 60
  refine Exists.intro (i + 1) ⟨rfl, nI_add i 1, (show i + 1 < L by omega), ?_⟩
  refine lw_cV hz (T := TW_24) hW_24 (pc := 1394) (idx := 233) (j := 215) (na := 2) (bj := 0) rfl rfl rfl rfl rfl (by omega) (q_C2i rfl (cX9_ageAt_ct hl0)) ?_
  refine hR _ _ (fun b M2 h3 hzb ho hLI => ?_)
  apply hz TW_24 hW_24 [1400] 60
  refine lw_cV hz (T := TW_24) hW_24 (pc := 1400) (idx := 148) (j := 146) (na := 1) (bj := 0) rfl rfl rfl rfl rfl (by omega) (q_C2i rfl (cX9_thrown_ct hl0)) ⟨rfl, ?_⟩
  apply hz TW_24 hW_24 [2900] 60
  refine And.intro (fun _ => ?_) (fun g => absurd h3 g)
  refine And.intro (fun g0 => ?_) (fun _ => hE _ _ _ (by omega) w_l2 hLI)
  refine Exists.intro 0 ⟨rfl, by decide, ?_⟩
  exact And.intro (fun _ => hE _ _ _ (by omega) w_l2 hLI) (fun g => absurd (w_cmp (ho (w_k0 hk g0))) g)
def TW_25 : Q_T := [(1430, .aload_n 1, 1431, 0), (1431, .aload_n 0, 1432, 0), (1432, .iload 4, 1434, 0), (1434, .iconst 1, 1435, 0), (1435, .iadd, 1436, 0), (1436, .iaload, 1437, 0), (1437, .aload_n 3, 1438, 0), (1438, .invokestatic 234, 1441, 0), (1441, .istore 5, 1443, 0), (1443, .aload_n 2, 1444, 0), (1444, .aload_n 0, 1445, 0), (1445, .iload 4, 1447, 0), (1447, .iconst 1, 1448, 0), (1448, .iadd, 1449, 0), (1449, .iaload, 1450, 0), (1450, .invokevirtual 236, 1453, 0), (1453, .istore 6, 1455, 0), (1455, .aload_n 2, 1456, 0), (1456, .invokevirtual 148, 1459, 0), (1459, .iload 5, 1461, 0), (1461, .if_icmp .eq 5, 1464, 1466), (1464, .iconst 0, 1465, 0), (1465, .ireturn, 1466, 0), (1466, .iload 5, 1468, 0), (1468, .ifCond .ne 22, 1471, 1490), (1471, .aload_n 3, 1472, 0), (1472, .iconst 0, 1473, 0), (1473, .laload, 1474, 0), (1474, .iload 6, 1476, 0), (1476, .ifCond .eq 7, 1479, 1483), (1479, .lconst 1, 1480, 0), (1480, .goto 4, 1483, 1484), (1483, .lconst 0, 1484, 0), (1484, .lcmp, 1485, 0), (1485, .ifCond .eq 5, 1488, 1490), (1488, .iconst 0, 1489, 0), (1489, .ireturn, 1490, 0), (1490, .goto 1410, 1493, 2900)]
set_option maxRecDepth 100000 in
theorem hW_25 : q_chk 10 9 13 474 code TW_25 = true := lw_sub 705 38 rfl
set_option maxRecDepth 100000 in
theorem wk_25 {l : Launch} (hl0 : l.stackTraces = false) {L : Nat} {xs : Nat → Int32} {Z : Q_Z} (hz : LW_hz l L xs Z) {c z i : Nat} {M : Q_M} (hi : LI c M) (hiL : i + 2 < L) (hzz : z + 4 ≤ 601024) (h512 : c ≤ 512) (hE : LW_E c z i Z) : Z z 1430 (lw_l i) [] M := by
  apply hz TW_25 hW_25 [1438] 60
  refine Exists.intro (i + 1) ⟨rfl, nI_add i 1, (show i + 1 < L by omega), ?_⟩
  refine lw_cS hz (T := TW_25) hW_25 (pc := 1438) (idx := 234) (j := 283) (na := 3) (bj := 1) rfl rfl rfl rfl rfl (by omega) (Or.inr ⟨by decide, by decide, cL_isIdle_ct hl0⟩) ?_
  refine jw_isIdle hi _ _ _ (fun k M1 hk hR => ?_)
  apply hz TW_25 hW_25 [1450] 60
  refine Exists.intro (i + 1) ⟨rfl, nI_add i 1, (show i + 1 < L by omega), ?_⟩
  refine lw_cV hz (T := TW_25) hW_25 (pc := 1450) (idx := 236) (j := 216) (na := 2) (bj := 0) rfl rfl rfl rfl rfl (by omega) (q_C2i rfl (cX9_isIdle_ct hl0)) ?_
  refine hR _ _ (fun b M2 h3 hzb ho hLI => ?_)
  apply hz TW_25 hW_25 [1456] 60
  refine lw_cV hz (T := TW_25) hW_25 (pc := 1456) (idx := 148) (j := 146) (na := 1) (bj := 0) rfl rfl rfl rfl rfl (by omega) (q_C2i rfl (cX9_thrown_ct hl0)) ⟨rfl, ?_⟩
  apply hz TW_25 hW_25 [2900] 60
  refine And.intro (fun _ => ?_) (fun g => absurd h3 g)
  refine And.intro (fun g0 => ?_) (fun _ => hE _ _ _ (by omega) w_l2 hLI)
  refine Exists.intro 0 ⟨rfl, by decide, ?_⟩
  refine And.intro (fun gb => ?_) (fun gb => ?_)
  · exact And.intro (fun _ => hE _ _ _ (by omega) w_l2 hLI) (fun g => absurd (w_cmp ((ho (w_k0 hk g0)).trans (w_b0 (hzb rfl) gb))) g)
  · exact And.intro (fun _ => hE _ _ _ (by omega) w_l2 hLI) (fun g => absurd (w_cmp ((ho (w_k0 hk g0)).trans (w_b1 (hzb rfl) gb))) g)
def TW_26 : Q_T := [(1493, .aload_n 1, 1494, 0), (1494, .aload_n 0, 1495, 0), (1495, .iload 4, 1497, 0), (1497, .iconst 1, 1498, 0), (1498, .iadd, 1499, 0), (1499, .iaload, 1500, 0), (1500, .aload_n 3, 1501, 0), (1501, .invokestatic 237, 1504, 0), (1504, .istore 5, 1506, 0), (1506, .aload_n 2, 1507, 0), (1507, .aload_n 0, 1508, 0), (1508, .iload 4, 1510, 0), (1510, .iconst 1, 1511, 0), (1511, .iadd, 1512, 0), (1512, .iaload, 1513, 0), (1513, .invokevirtual 239, 1516, 0), (1516, .istore 6, 1518, 0), (1518, .aload_n 2, 1519, 0), (1519, .invokevirtual 148, 1522, 0), (1522, .iload 5, 1524, 0), (1524, .if_icmp .eq 5, 1527, 1529), (1527, .iconst 0, 1528, 0), (1528, .ireturn, 1529, 0), (1529, .iload 5, 1531, 0), (1531, .ifCond .ne 22, 1534, 1553), (1534, .aload_n 3, 1535, 0), (1535, .iconst 0, 1536, 0), (1536, .laload, 1537, 0), (1537, .iload 6, 1539, 0), (1539, .ifCond .eq 7, 1542, 1546), (1542, .lconst 1, 1543, 0), (1543, .goto 4, 1546, 1547), (1546, .lconst 0, 1547, 0), (1547, .lcmp, 1548, 0), (1548, .ifCond .eq 5, 1551, 1553), (1551, .iconst 0, 1552, 0), (1552, .ireturn, 1553, 0), (1553, .goto 1347, 1556, 2900)]
set_option maxRecDepth 100000 in
theorem hW_26 : q_chk 10 9 13 474 code TW_26 = true := lw_sub 743 38 rfl
set_option maxRecDepth 100000 in
theorem wk_26 {l : Launch} (hl0 : l.stackTraces = false) {L : Nat} {xs : Nat → Int32} {Z : Q_Z} (hz : LW_hz l L xs Z) {c z i : Nat} {M : Q_M} (hi : LI c M) (hiL : i + 2 < L) (hzz : z + 4 ≤ 601024) (h512 : c ≤ 512) (hE : LW_E c z i Z) : Z z 1493 (lw_l i) [] M := by
  apply hz TW_26 hW_26 [1501] 60
  refine Exists.intro (i + 1) ⟨rfl, nI_add i 1, (show i + 1 < L by omega), ?_⟩
  refine lw_cS hz (T := TW_26) hW_26 (pc := 1501) (idx := 237) (j := 284) (na := 3) (bj := 1) rfl rfl rfl rfl rfl (by omega) (Or.inr ⟨by decide, by decide, cL_isBroken_ct hl0⟩) ?_
  refine jw_isBroken hi _ _ _ (fun k M1 hk hR => ?_)
  apply hz TW_26 hW_26 [1513] 60
  refine Exists.intro (i + 1) ⟨rfl, nI_add i 1, (show i + 1 < L by omega), ?_⟩
  refine lw_cV hz (T := TW_26) hW_26 (pc := 1513) (idx := 239) (j := 217) (na := 2) (bj := 0) rfl rfl rfl rfl rfl (by omega) (q_C2i rfl (cX9_isBroken_ct hl0)) ?_
  refine hR _ _ (fun b M2 h3 hzb ho hLI => ?_)
  apply hz TW_26 hW_26 [1519] 60
  refine lw_cV hz (T := TW_26) hW_26 (pc := 1519) (idx := 148) (j := 146) (na := 1) (bj := 0) rfl rfl rfl rfl rfl (by omega) (q_C2i rfl (cX9_thrown_ct hl0)) ⟨rfl, ?_⟩
  apply hz TW_26 hW_26 [2900] 60
  refine And.intro (fun _ => ?_) (fun g => absurd h3 g)
  refine And.intro (fun g0 => ?_) (fun _ => hE _ _ _ (by omega) w_l2 hLI)
  refine Exists.intro 0 ⟨rfl, by decide, ?_⟩
  refine And.intro (fun gb => ?_) (fun gb => ?_)
  · exact And.intro (fun _ => hE _ _ _ (by omega) w_l2 hLI) (fun g => absurd (w_cmp ((ho (w_k0 hk g0)).trans (w_b0 (hzb rfl) gb))) g)
  · exact And.intro (fun _ => hE _ _ _ (by omega) w_l2 hLI) (fun g => absurd (w_cmp ((ho (w_k0 hk g0)).trans (w_b1 (hzb rfl) gb))) g)
def TW_27 : Q_T := [(1556, .aload_n 1, 1557, 0), (1557, .aload_n 0, 1558, 0), (1558, .iload 4, 1560, 0), (1560, .iconst 1, 1561, 0), (1561, .iadd, 1562, 0), (1562, .iaload, 1563, 0), (1563, .aload_n 3, 1564, 0), (1564, .invokestatic 240, 1567, 0), (1567, .istore 5, 1569, 0), (1569, .aload_n 2, 1570, 0), (1570, .aload_n 0, 1571, 0), (1571, .iload 4, 1573, 0), (1573, .iconst 1, 1574, 0), (1574, .iadd, 1575, 0), (1575, .iaload, 1576, 0), (1576, .invokevirtual 242, 1579, 0), (1579, .istore 6, 1581, 0), (1581, .aload_n 2, 1582, 0), (1582, .invokevirtual 148, 1585, 0), (1585, .iload 5, 1587, 0), (1587, .if_icmp .eq 5, 1590, 1592), (1590, .iconst 0, 1591, 0), (1591, .ireturn, 1592, 0), (1592, .iload 5, 1594, 0), (1594, .ifCond .ne 15, 1597, 1609), (1597, .aload_n 3, 1598, 0), (1598, .iconst 0, 1599, 0), (1599, .laload, 1600, 0), (1600, .iload 6, 1602, 0), (1602, .i2l, 1603, 0), (1603, .lcmp, 1604, 0), (1604, .ifCond .eq 5, 1607, 1609), (1607, .iconst 0, 1608, 0), (1608, .ireturn, 1609, 0), (1609, .goto 1291, 1612, 2900)]
set_option maxRecDepth 100000 in
theorem hW_27 : q_chk 10 9 13 474 code TW_27 = true := lw_sub 781 35 rfl
set_option maxRecDepth 100000 in
theorem wk_27 {l : Launch} (hl0 : l.stackTraces = false) {L : Nat} {xs : Nat → Int32} {Z : Q_Z} (hz : LW_hz l L xs Z) {c z i : Nat} {M : Q_M} (hi : LI c M) (hiL : i + 2 < L) (hzz : z + 4 ≤ 601024) (h512 : c ≤ 512) (hE : LW_E c z i Z) : Z z 1556 (lw_l i) [] M := by
  apply hz TW_27 hW_27 [1564] 60
  refine Exists.intro (i + 1) ⟨rfl, nI_add i 1, (show i + 1 < L by omega), ?_⟩
  refine lw_cS hz (T := TW_27) hW_27 (pc := 1564) (idx := 240) (j := 285) (na := 3) (bj := 2) rfl rfl rfl rfl rfl (by omega) (Or.inr ⟨by decide, by decide, cL_squirrelAt_ct hl0⟩) ?_
  refine jw_squirrelAt hi _ _ _ (fun k M1 hk hR => ?_)
  apply hz TW_27 hW_27 [1576] 60
  refine Exists.intro (i + 1) ⟨rfl, nI_add i 1, (show i + 1 < L by omega), ?_⟩
  refine lw_cV hz (T := TW_27) hW_27 (pc := 1576) (idx := 242) (j := 218) (na := 2) (bj := 0) rfl rfl rfl rfl rfl (by omega) (q_C2i rfl (cX9_squirrelAt_ct hl0)) ?_
  refine hR _ _ (fun b M2 h3 hzb ho hLI => ?_)
  apply hz TW_27 hW_27 [1582] 60
  refine lw_cV hz (T := TW_27) hW_27 (pc := 1582) (idx := 148) (j := 146) (na := 1) (bj := 0) rfl rfl rfl rfl rfl (by omega) (q_C2i rfl (cX9_thrown_ct hl0)) ⟨rfl, ?_⟩
  apply hz TW_27 hW_27 [2900] 60
  refine And.intro (fun _ => ?_) (fun g => absurd h3 g)
  refine And.intro (fun g0 => ?_) (fun _ => hE _ _ _ (by omega) w_l2 hLI)
  refine Exists.intro 0 ⟨rfl, by decide, ?_⟩
  exact And.intro (fun _ => hE _ _ _ (by omega) w_l2 hLI) (fun g => absurd (w_cmp (ho (w_k0 hk g0))) g)
def TW_28 : Q_T := [(1612, .aload_n 1, 1613, 0), (1613, .aload_n 0, 1614, 0), (1614, .iload 4, 1616, 0), (1616, .iconst 1, 1617, 0), (1617, .iadd, 1618, 0), (1618, .iaload, 1619, 0), (1619, .aload_n 3, 1620, 0), (1620, .invokestatic 243, 1623, 0), (1623, .istore 5, 1625, 0), (1625, .aload_n 2, 1626, 0), (1626, .aload_n 0, 1627, 0), (1627, .iload 4, 1629, 0), (1629, .iconst 1, 1630, 0), (1630, .iadd, 1631, 0), (1631, .iaload, 1632, 0), (1632, .invokevirtual 245, 1635, 0), (1635, .istore 6, 1637, 0), (1637, .aload_n 2, 1638, 0), (1638, .invokevirtual 148, 1641, 0), (1641, .iload 5, 1643, 0), (1643, .if_icmp .eq 5, 1646, 1648), (1646, .iconst 0, 1647, 0), (1647, .ireturn, 1648, 0), (1648, .iload 5, 1650, 0), (1650, .ifCond .ne 15, 1653, 1665), (1653, .aload_n 3, 1654, 0), (1654, .iconst 0, 1655, 0), (1655, .laload, 1656, 0), (1656, .iload 6, 1658, 0), (1658, .i2l, 1659, 0), (1659, .lcmp, 1660, 0), (1660, .ifCond .eq 5, 1663, 1665), (1663, .iconst 0, 1664, 0), (1664, .ireturn, 1665, 0), (1665, .goto 1235, 1668, 2900)]
set_option maxRecDepth 100000 in
theorem hW_28 : q_chk 10 9 13 474 code TW_28 = true := lw_sub 816 35 rfl
set_option maxRecDepth 100000 in
theorem wk_28 {l : Launch} (hl0 : l.stackTraces = false) {L : Nat} {xs : Nat → Int32} {Z : Q_Z} (hz : LW_hz l L xs Z) {c z i : Nat} {M : Q_M} (hi : LI c M) (hiL : i + 2 < L) (hzz : z + 4 ≤ 601024) (h512 : c ≤ 512) (hE : LW_E c z i Z) : Z z 1612 (lw_l i) [] M := by
  apply hz TW_28 hW_28 [1620] 60
  refine Exists.intro (i + 1) ⟨rfl, nI_add i 1, (show i + 1 < L by omega), ?_⟩
  refine lw_cS hz (T := TW_28) hW_28 (pc := 1620) (idx := 243) (j := 286) (na := 3) (bj := 1) rfl rfl rfl rfl rfl (by omega) (Or.inr ⟨by decide, by decide, cL_sinceAt_ct hl0⟩) ?_
  refine jw_sinceAt hi _ _ _ (fun k M1 hk hR => ?_)
  apply hz TW_28 hW_28 [1632] 60
  refine Exists.intro (i + 1) ⟨rfl, nI_add i 1, (show i + 1 < L by omega), ?_⟩
  refine lw_cV hz (T := TW_28) hW_28 (pc := 1632) (idx := 245) (j := 219) (na := 2) (bj := 0) rfl rfl rfl rfl rfl (by omega) (q_C2i rfl (cX9_sinceAt_ct hl0)) ?_
  refine hR _ _ (fun b M2 h3 hzb ho hLI => ?_)
  apply hz TW_28 hW_28 [1638] 60
  refine lw_cV hz (T := TW_28) hW_28 (pc := 1638) (idx := 148) (j := 146) (na := 1) (bj := 0) rfl rfl rfl rfl rfl (by omega) (q_C2i rfl (cX9_thrown_ct hl0)) ⟨rfl, ?_⟩
  apply hz TW_28 hW_28 [2900] 60
  refine And.intro (fun _ => ?_) (fun g => absurd h3 g)
  refine And.intro (fun g0 => ?_) (fun _ => hE _ _ _ (by omega) w_l2 hLI)
  refine Exists.intro 0 ⟨rfl, by decide, ?_⟩
  exact And.intro (fun _ => hE _ _ _ (by omega) w_l2 hLI) (fun g => absurd (w_cmp (ho (w_k0 hk g0))) g)
def TW_29 : Q_T := [(1668, .aload_n 1, 1669, 0), (1669, .aload_n 0, 1670, 0), (1670, .iload 4, 1672, 0), (1672, .iconst 1, 1673, 0), (1673, .iadd, 1674, 0), (1674, .iaload, 1675, 0), (1675, .aload_n 3, 1676, 0), (1676, .invokestatic 246, 1679, 0), (1679, .istore 5, 1681, 0), (1681, .aload_n 2, 1682, 0), (1682, .aload_n 0, 1683, 0), (1683, .iload 4, 1685, 0), (1685, .iconst 1, 1686, 0), (1686, .iadd, 1687, 0), (1687, .iaload, 1688, 0), (1688, .invokevirtual 248, 1691, 0), (1691, .istore 6, 1693, 0), (1693, .aload_n 2, 1694, 0), (1694, .invokevirtual 148, 1697, 0), (1697, .iload 5, 1699, 0), (1699, .if_icmp .eq 5, 1702, 1704), (1702, .iconst 0, 1703, 0), (1703, .ireturn, 1704, 0), (1704, .iload 5, 1706, 0), (1706, .ifCond .ne 15, 1709, 1721), (1709, .aload_n 3, 1710, 0), (1710, .iconst 0, 1711, 0), (1711, .laload, 1712, 0), (1712, .iload 6, 1714, 0), (1714, .i2l, 1715, 0), (1715, .lcmp, 1716, 0), (1716, .ifCond .eq 5, 1719, 1721), (1719, .iconst 0, 1720, 0), (1720, .ireturn, 1721, 0), (1721, .goto 1179, 1724, 2900)]
set_option maxRecDepth 100000 in
theorem hW_29 : q_chk 10 9 13 474 code TW_29 = true := lw_sub 851 35 rfl
set_option maxRecDepth 100000 in
theorem wk_29 {l : Launch} (hl0 : l.stackTraces = false) {L : Nat} {xs : Nat → Int32} {Z : Q_Z} (hz : LW_hz l L xs Z) {c z i : Nat} {M : Q_M} (hi : LI c M) (hiL : i + 2 < L) (hzz : z + 4 ≤ 601024) (h512 : c ≤ 512) (hE : LW_E c z i Z) : Z z 1668 (lw_l i) [] M := by
  apply hz TW_29 hW_29 [1676] 60
  refine Exists.intro (i + 1) ⟨rfl, nI_add i 1, (show i + 1 < L by omega), ?_⟩
  refine lw_cS hz (T := TW_29) hW_29 (pc := 1676) (idx := 246) (j := 287) (na := 3) (bj := 2) rfl rfl rfl rfl rfl (by omega) (Or.inr ⟨by decide, by decide, cL_turnOf_ct hl0⟩) ?_
  refine jw_turnOf hi _ _ _ (fun k M1 hk hR => ?_)
  apply hz TW_29 hW_29 [1688] 60
  refine Exists.intro (i + 1) ⟨rfl, nI_add i 1, (show i + 1 < L by omega), ?_⟩
  refine lw_cV hz (T := TW_29) hW_29 (pc := 1688) (idx := 248) (j := 221) (na := 2) (bj := 0) rfl rfl rfl rfl rfl (by omega) (q_C2i rfl (cX9_turnOf_ct hl0)) ?_
  refine hR _ _ (fun b M2 h3 hzb ho hLI => ?_)
  apply hz TW_29 hW_29 [1694] 60
  refine lw_cV hz (T := TW_29) hW_29 (pc := 1694) (idx := 148) (j := 146) (na := 1) (bj := 0) rfl rfl rfl rfl rfl (by omega) (q_C2i rfl (cX9_thrown_ct hl0)) ⟨rfl, ?_⟩
  apply hz TW_29 hW_29 [2900] 60
  refine And.intro (fun _ => ?_) (fun g => absurd h3 g)
  refine And.intro (fun g0 => ?_) (fun _ => hE _ _ _ (by omega) w_l2 hLI)
  refine Exists.intro 0 ⟨rfl, by decide, ?_⟩
  exact And.intro (fun _ => hE _ _ _ (by omega) w_l2 hLI) (fun g => absurd (w_cmp (ho (w_k0 hk g0))) g)
def TW_30 : Q_T := [(1724, .aload_n 1, 1725, 0), (1725, .aload_n 0, 1726, 0), (1726, .iload 4, 1728, 0), (1728, .iconst 1, 1729, 0), (1729, .iadd, 1730, 0), (1730, .iaload, 1731, 0), (1731, .aload_n 3, 1732, 0), (1732, .invokestatic 249, 1735, 0), (1735, .istore 5, 1737, 0), (1737, .aload_n 2, 1738, 0), (1738, .aload_n 0, 1739, 0), (1739, .iload 4, 1741, 0), (1741, .iconst 1, 1742, 0), (1742, .iadd, 1743, 0), (1743, .iaload, 1744, 0), (1744, .invokevirtual 251, 1747, 0), (1747, .istore 6, 1749, 0), (1749, .aload_n 2, 1750, 0), (1750, .invokevirtual 148, 1753, 0), (1753, .iload 5, 1755, 0), (1755, .if_icmp .eq 5, 1758, 1760), (1758, .iconst 0, 1759, 0), (1759, .ireturn, 1760, 0), (1760, .iload 5, 1762, 0), (1762, .ifCond .ne 15, 1765, 1777), (1765, .aload_n 3, 1766, 0), (1766, .iconst 0, 1767, 0), (1767, .laload, 1768, 0), (1768, .iload 6, 1770, 0), (1770, .i2l, 1771, 0), (1771, .lcmp, 1772, 0), (1772, .ifCond .eq 5, 1775, 1777), (1775, .iconst 0, 1776, 0), (1776, .ireturn, 1777, 0), (1777, .goto 1123, 1780, 2900)]
set_option maxRecDepth 100000 in
theorem hW_30 : q_chk 10 9 13 474 code TW_30 = true := lw_sub 886 35 rfl
set_option maxRecDepth 100000 in
theorem wk_30 {l : Launch} (hl0 : l.stackTraces = false) {L : Nat} {xs : Nat → Int32} {Z : Q_Z} (hz : LW_hz l L xs Z) {c z i : Nat} {M : Q_M} (hi : LI c M) (hiL : i + 2 < L) (hzz : z + 4 ≤ 601024) (h512 : c ≤ 512) (hE : LW_E c z i Z) : Z z 1724 (lw_l i) [] M := by
  apply hz TW_30 hW_30 [1732] 60
  refine Exists.intro (i + 1) ⟨rfl, nI_add i 1, (show i + 1 < L by omega), ?_⟩
  refine lw_cS hz (T := TW_30) hW_30 (pc := 1732) (idx := 249) (j := 288) (na := 3) (bj := 1) rfl rfl rfl rfl rfl (by omega) (Or.inr ⟨by decide, by decide, cL_lendingsOf_ct hl0⟩) ?_
  refine jw_lendingsOf hi _ _ _ (fun k M1 hk hR => ?_)
  apply hz TW_30 hW_30 [1744] 60
  refine Exists.intro (i + 1) ⟨rfl, nI_add i 1, (show i + 1 < L by omega), ?_⟩
  refine lw_cV hz (T := TW_30) hW_30 (pc := 1744) (idx := 251) (j := 222) (na := 2) (bj := 0) rfl rfl rfl rfl rfl (by omega) (q_C2i rfl (cX9_lendingsOf_ct hl0)) ?_
  refine hR _ _ (fun b M2 h3 hzb ho hLI => ?_)
  apply hz TW_30 hW_30 [1750] 60
  refine lw_cV hz (T := TW_30) hW_30 (pc := 1750) (idx := 148) (j := 146) (na := 1) (bj := 0) rfl rfl rfl rfl rfl (by omega) (q_C2i rfl (cX9_thrown_ct hl0)) ⟨rfl, ?_⟩
  apply hz TW_30 hW_30 [2900] 60
  refine And.intro (fun _ => ?_) (fun g => absurd h3 g)
  refine And.intro (fun g0 => ?_) (fun _ => hE _ _ _ (by omega) w_l2 hLI)
  refine Exists.intro 0 ⟨rfl, by decide, ?_⟩
  exact And.intro (fun _ => hE _ _ _ (by omega) w_l2 hLI) (fun g => absurd (w_cmp (ho (w_k0 hk g0))) g)
def TW_31 : Q_T := [(1780, .aload_n 1, 1781, 0), (1781, .aload_n 0, 1782, 0), (1782, .iload 4, 1784, 0), (1784, .iconst 1, 1785, 0), (1785, .iadd, 1786, 0), (1786, .iaload, 1787, 0), (1787, .aload_n 3, 1788, 0), (1788, .invokestatic 252, 1791, 0), (1791, .istore 5, 1793, 0), (1793, .aload_n 2, 1794, 0), (1794, .aload_n 0, 1795, 0), (1795, .iload 4, 1797, 0), (1797, .iconst 1, 1798, 0), (1798, .iadd, 1799, 0), (1799, .iaload, 1800, 0), (1800, .invokevirtual 254, 1803, 0), (1803, .istore 6, 1805, 0), (1805, .aload_n 2, 1806, 0), (1806, .invokevirtual 148, 1809, 0), (1809, .iload 5, 1811, 0), (1811, .if_icmp .eq 5, 1814, 1816), (1814, .iconst 0, 1815, 0), (1815, .ireturn, 1816, 0), (1816, .iload 5, 1818, 0), (1818, .ifCond .ne 15, 1821, 1833), (1821, .aload_n 3, 1822, 0), (1822, .iconst 0, 1823, 0), (1823, .laload, 1824, 0), (1824, .iload 6, 1826, 0), (1826, .i2l, 1827, 0), (1827, .lcmp, 1828, 0), (1828, .ifCond .eq 5, 1831, 1833), (1831, .iconst 0, 1832, 0), (1832, .ireturn, 1833, 0), (1833, .goto 1067, 1836, 2900)]
set_option maxRecDepth 100000 in
theorem hW_31 : q_chk 10 9 13 474 code TW_31 = true := lw_sub 921 35 rfl
set_option maxRecDepth 100000 in
theorem wk_31 {l : Launch} (hl0 : l.stackTraces = false) {L : Nat} {xs : Nat → Int32} {Z : Q_Z} (hz : LW_hz l L xs Z) {c z i : Nat} {M : Q_M} (hi : LI c M) (hiL : i + 2 < L) (hzz : z + 4 ≤ 601024) (h512 : c ≤ 512) (hE : LW_E c z i Z) : Z z 1780 (lw_l i) [] M := by
  apply hz TW_31 hW_31 [1788] 60
  refine Exists.intro (i + 1) ⟨rfl, nI_add i 1, (show i + 1 < L by omega), ?_⟩
  refine lw_cS hz (T := TW_31) hW_31 (pc := 1788) (idx := 252) (j := 289) (na := 3) (bj := 1) rfl rfl rfl rfl rfl (by omega) (Or.inr ⟨by decide, by decide, cL_nutsIn_ct hl0⟩) ?_
  refine jw_nutsIn hi _ _ _ (fun k M1 hk hR => ?_)
  apply hz TW_31 hW_31 [1800] 60
  refine Exists.intro (i + 1) ⟨rfl, nI_add i 1, (show i + 1 < L by omega), ?_⟩
  refine lw_cV hz (T := TW_31) hW_31 (pc := 1800) (idx := 254) (j := 223) (na := 2) (bj := 0) rfl rfl rfl rfl rfl (by omega) (q_C2i rfl (cX9_nutsIn_ct hl0)) ?_
  refine hR _ _ (fun b M2 h3 hzb ho hLI => ?_)
  apply hz TW_31 hW_31 [1806] 60
  refine lw_cV hz (T := TW_31) hW_31 (pc := 1806) (idx := 148) (j := 146) (na := 1) (bj := 0) rfl rfl rfl rfl rfl (by omega) (q_C2i rfl (cX9_thrown_ct hl0)) ⟨rfl, ?_⟩
  apply hz TW_31 hW_31 [2900] 60
  refine And.intro (fun _ => ?_) (fun g => absurd h3 g)
  refine And.intro (fun g0 => ?_) (fun _ => hE _ _ _ (by omega) w_l2 hLI)
  refine Exists.intro 0 ⟨rfl, by decide, ?_⟩
  exact And.intro (fun _ => hE _ _ _ (by omega) w_l2 hLI) (fun g => absurd (w_cmp (ho (w_k0 hk g0))) g)
def TW_32 : Q_T := [(1836, .aload_n 1, 1837, 0), (1837, .aload_n 0, 1838, 0), (1838, .iload 4, 1840, 0), (1840, .iconst 1, 1841, 0), (1841, .iadd, 1842, 0), (1842, .iaload, 1843, 0), (1843, .aload_n 0, 1844, 0), (1844, .iload 4, 1846, 0), (1846, .iconst 2, 1847, 0), (1847, .iadd, 1848, 0), (1848, .iaload, 1849, 0), (1849, .aload_n 3, 1850, 0), (1850, .invokestatic 255, 1853, 0), (1853, .istore 5, 1855, 0), (1855, .aload_n 2, 1856, 0), (1856, .aload_n 0, 1857, 0), (1857, .iload 4, 1859, 0), (1859, .iconst 1, 1860, 0), (1860, .iadd, 1861, 0), (1861, .iaload, 1862, 0), (1862, .aload_n 0, 1863, 0), (1863, .iload 4, 1865, 0), (1865, .iconst 2, 1866, 0), (1866, .iadd, 1867, 0), (1867, .iaload, 1868, 0), (1868, .invokevirtual 257, 1871, 0), (1871, .istore 6, 1873, 0), (1873, .aload_n 2, 1874, 0), (1874, .invokevirtual 148, 1877, 0), (1877, .iload 5, 1879, 0), (1879, .if_icmp .eq 5, 1882, 1884), (1882, .iconst 0, 1883, 0), (1883, .ireturn, 1884, 0), (1884, .iload 5, 1886, 0), (1886, .ifCond .ne 15, 1889, 1901), (1889, .aload_n 3, 1890, 0), (1890, .iconst 0, 1891, 0), (1891, .laload, 1892, 0), (1892, .iload 6, 1894, 0), (1894, .i2l, 1895, 0), (1895, .lcmp, 1896, 0), (1896, .ifCond .eq 5, 1899, 1901), (1899, .iconst 0, 1900, 0), (1900, .ireturn, 1901, 0), (1901, .goto 999, 1904, 2900)]
set_option maxRecDepth 100000 in
theorem hW_32 : q_chk 10 9 13 474 code TW_32 = true := lw_sub 956 45 rfl
set_option maxRecDepth 100000 in
theorem wk_32 {l : Launch} (hl0 : l.stackTraces = false) {L : Nat} {xs : Nat → Int32} {Z : Q_Z} (hz : LW_hz l L xs Z) {c z i : Nat} {M : Q_M} (hi : LI c M) (hiL : i + 2 < L) (hzz : z + 4 ≤ 601024) (h512 : c ≤ 512) (hE : LW_E c z i Z) : Z z 1836 (lw_l i) [] M := by
  apply hz TW_32 hW_32 [1850] 60
  refine Exists.intro (i + 1) ⟨rfl, nI_add i 1, (show i + 1 < L by omega), ?_⟩
  refine Exists.intro (i + 2) ⟨rfl, nI_add i 2, (show i + 2 < L by omega), ?_⟩
  refine lw_cS hz (T := TW_32) hW_32 (pc := 1850) (idx := 255) (j := 290) (na := 4) (bj := 2) rfl rfl rfl rfl rfl (by omega) (Or.inr ⟨by decide, by decide, cL_nutAt_ct hl0⟩) ?_
  refine jw_nutAt hi _ _ _ _ (fun k M1 hk hR => ?_)
  apply hz TW_32 hW_32 [1868] 60
  refine Exists.intro (i + 1) ⟨rfl, nI_add i 1, (show i + 1 < L by omega), ?_⟩
  refine Exists.intro (i + 2) ⟨rfl, nI_add i 2, (show i + 2 < L by omega), ?_⟩
  refine lw_cV hz (T := TW_32) hW_32 (pc := 1868) (idx := 257) (j := 224) (na := 3) (bj := 0) rfl rfl rfl rfl rfl (by omega) (q_C2i rfl (cX9_nutAt_ct hl0)) ?_
  refine hR _ _ (fun b M2 h3 hzb ho hLI => ?_)
  apply hz TW_32 hW_32 [1874] 60
  refine lw_cV hz (T := TW_32) hW_32 (pc := 1874) (idx := 148) (j := 146) (na := 1) (bj := 0) rfl rfl rfl rfl rfl (by omega) (q_C2i rfl (cX9_thrown_ct hl0)) ⟨rfl, ?_⟩
  apply hz TW_32 hW_32 [2900] 60
  refine And.intro (fun _ => ?_) (fun g => absurd h3 g)
  refine And.intro (fun g0 => ?_) (fun _ => hE _ _ _ (by omega) w_l2 hLI)
  refine Exists.intro 0 ⟨rfl, by decide, ?_⟩
  exact And.intro (fun _ => hE _ _ _ (by omega) w_l2 hLI) (fun g => absurd (w_cmp (ho (w_k0 hk g0))) g)
def TW_33 : Q_T := [(1904, .aload_n 1, 1905, 0), (1905, .invokevirtual 258, 1908, 0), (1908, .aload_n 2, 1909, 0), (1909, .invokevirtual 261, 1912, 0), (1912, .if_icmp .eq 988, 1915, 2900), (1915, .iconst 0, 1916, 0), (1916, .ireturn, 1917, 0)]
set_option maxRecDepth 100000 in
theorem hW_33 : q_chk 10 9 13 474 code TW_33 = true := lw_sub 1001 7 rfl
set_option maxRecDepth 100000 in
theorem wk_33 {l : Launch} (hl0 : l.stackTraces = false) {L : Nat} {xs : Nat → Int32} {Z : Q_Z} (hz : LW_hz l L xs Z) {c z i : Nat} {M : Q_M} (hi : LI c M) (hiL : i + 2 < L) (hzz : z + 4 ≤ 601024) (h512 : c ≤ 512) (hE : LW_E c z i Z) : Z z 1904 (lw_l i) [] M := by
  apply hz TW_33 hW_33 [1905] 60
  refine lw_cV hz (T := TW_33) hW_33 (pc := 1905) (idx := 258) (j := 100) (na := 1) (bj := 0) rfl rfl rfl rfl rfl (by omega) (q_C2i rfl (cX8_idle_ct hl0)) ?_
  refine jd_idle hi _ _ (fun v M1 hR => ?_)
  apply hz TW_33 hW_33 [1909] 60
  refine lw_cV hz (T := TW_33) hW_33 (pc := 1909) (idx := 261) (j := 225) (na := 1) (bj := 0) rfl rfl rfl rfl rfl (by omega) (q_C2i rfl (cX9_idle_ct hl0)) ?_
  refine hR _ _ (fun M2 hLI => ?_)
  apply hz TW_33 hW_33 [2900] 60
  exact And.intro (fun _ => hE _ _ _ (by omega) w_l0 hLI) (fun g => absurd rfl g)
def TW_34 : Q_T := [(1917, .aload_n 1, 1918, 0), (1918, .invokevirtual 262, 1921, 0), (1921, .aload_n 2, 1922, 0), (1922, .invokevirtual 265, 1925, 0), (1925, .if_icmp .eq 975, 1928, 2900), (1928, .iconst 0, 1929, 0), (1929, .ireturn, 1930, 0)]
set_option maxRecDepth 100000 in
theorem hW_34 : q_chk 10 9 13 474 code TW_34 = true := lw_sub 1008 7 rfl
set_option maxRecDepth 100000 in
theorem wk_34 {l : Launch} (hl0 : l.stackTraces = false) {L : Nat} {xs : Nat → Int32} {Z : Q_Z} (hz : LW_hz l L xs Z) {c z i : Nat} {M : Q_M} (hi : LI c M) (hiL : i + 2 < L) (hzz : z + 4 ≤ 601024) (h512 : c ≤ 512) (hE : LW_E c z i Z) : Z z 1917 (lw_l i) [] M := by
  apply hz TW_34 hW_34 [1918] 60
  refine lw_cV hz (T := TW_34) hW_34 (pc := 1918) (idx := 262) (j := 101) (na := 1) (bj := 0) rfl rfl rfl rfl rfl (by omega) (q_C2i rfl (cX8_leasedByConnections_ct hl0)) ?_
  refine jd_leasedByConnections hi _ _ (fun v M1 hR => ?_)
  apply hz TW_34 hW_34 [1922] 60
  refine lw_cV hz (T := TW_34) hW_34 (pc := 1922) (idx := 265) (j := 226) (na := 1) (bj := 0) rfl rfl rfl rfl rfl (by omega) (q_C2i rfl (cX9_leasedByConnections_ct hl0)) ?_
  refine hR _ _ (fun M2 hLI => ?_)
  apply hz TW_34 hW_34 [2900] 60
  exact And.intro (fun _ => hE _ _ _ (by omega) w_l0 hLI) (fun g => absurd rfl g)
def TW_35 : Q_T := [(1930, .aload_n 1, 1931, 0), (1931, .invokevirtual 266, 1934, 0), (1934, .aload_n 2, 1935, 0), (1935, .invokevirtual 269, 1938, 0), (1938, .if_icmp .eq 962, 1941, 2900), (1941, .iconst 0, 1942, 0), (1942, .ireturn, 1943, 0)]
set_option maxRecDepth 100000 in
theorem hW_35 : q_chk 10 9 13 474 code TW_35 = true := lw_sub 1015 7 rfl
set_option maxRecDepth 100000 in
theorem wk_35 {l : Launch} (hl0 : l.stackTraces = false) {L : Nat} {xs : Nat → Int32} {Z : Q_Z} (hz : LW_hz l L xs Z) {c z i : Nat} {M : Q_M} (hi : LI c M) (hiL : i + 2 < L) (hzz : z + 4 ≤ 601024) (h512 : c ≤ 512) (hE : LW_E c z i Z) : Z z 1930 (lw_l i) [] M := by
  apply hz TW_35 hW_35 [1931] 60
  refine lw_cV hz (T := TW_35) hW_35 (pc := 1931) (idx := 266) (j := 102) (na := 1) (bj := 0) rfl rfl rfl rfl rfl (by omega) (q_C2i rfl (cX8_leasedBySquirrels_ct hl0)) ?_
  refine jd_leasedBySquirrels hi _ _ (fun v M1 hR => ?_)
  apply hz TW_35 hW_35 [1935] 60
  refine lw_cV hz (T := TW_35) hW_35 (pc := 1935) (idx := 269) (j := 228) (na := 1) (bj := 0) rfl rfl rfl rfl rfl (by omega) (q_C2i rfl (cX9_leasedBySquirrels_ct hl0)) ?_
  refine hR _ _ (fun M2 hLI => ?_)
  apply hz TW_35 hW_35 [2900] 60
  exact And.intro (fun _ => hE _ _ _ (by omega) w_l0 hLI) (fun g => absurd rfl g)
