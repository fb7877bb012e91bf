/-! words by their places in the tables, links, constants (printed by a program of ours) -/
theorem ka_6 : Int32.ofNat 6 = 6 := by decide
theorem ka_8 : Int32.ofNat 8 = 8 := by decide
theorem ka_9 : Int32.ofNat 9 = 9 := by decide
theorem ka_10 : Int32.ofNat 10 = 10 := by decide
theorem ka_16 : Int32.ofNat 16 = 16 := by decide
theorem ka_20 : Int32.ofNat 20 = 20 := by decide
theorem ka_24 : Int32.ofNat 24 = 24 := by decide
theorem ka_30 : Int32.ofNat 30 = 30 := by decide
theorem ka_40 : Int32.ofNat 40 = 40 := by decide
theorem ka_46 : Int32.ofNat 46 = 46 := by decide
theorem ka_100 : Int32.ofNat 100 = 100 := by decide
theorem ka_108 : Int32.ofNat 108 = 108 := by decide
theorem ka_135 : Int32.ofNat 135 = 135 := by decide
theorem ka_144 : Int32.ofNat 144 = 144 := by decide
theorem ka_160 : Int32.ofNat 160 = 160 := by decide
theorem ka_162 : Int32.ofNat 162 = 162 := by decide
theorem ka_180 : Int32.ofNat 180 = 180 := by decide
theorem ka_368 : Int32.ofNat 368 = 368 := by decide
theorem ka_800 : Int32.ofNat 800 = 800 := by decide
theorem kb_6 : (Int8.ofInt 6).toInt32 = 6 := by decide
theorem kb_7 : (Int8.ofInt 7).toInt32 = 7 := by decide
theorem kb_8 : (Int8.ofInt 8).toInt32 = 8 := by decide
theorem kb_9 : (Int8.ofInt 9).toInt32 = 9 := by decide
theorem kb_10 : (Int8.ofInt 10).toInt32 = 10 := by decide
theorem kb_11 : (Int8.ofInt 11).toInt32 = 11 := by decide
theorem kb_12 : (Int8.ofInt 12).toInt32 = 12 := by decide
theorem kb_15 : (Int8.ofInt 15).toInt32 = 15 := by decide
theorem kb_16 : (Int8.ofInt 16).toInt32 = 16 := by decide
theorem kb_18 : (Int8.ofInt 18).toInt32 = 18 := by decide
theorem kb_19 : (Int8.ofInt 19).toInt32 = 19 := by decide
theorem kb_20 : (Int8.ofInt 20).toInt32 = 20 := by decide
theorem kb_23 : (Int8.ofInt 23).toInt32 = 23 := by decide
theorem kb_24 : (Int8.ofInt 24).toInt32 = 24 := by decide
theorem kb_27 : (Int8.ofInt 27).toInt32 = 27 := by decide
theorem kb_31 : (Int8.ofInt 31).toInt32 = 31 := by decide
theorem kb_32 : (Int8.ofInt 32).toInt32 = 32 := by decide
theorem kb_45 : (Int8.ofInt 45).toInt32 = 45 := by decide
theorem kb_48 : (Int8.ofInt 48).toInt32 = 48 := by decide
theorem kb_57 : (Int8.ofInt 57).toInt32 = 57 := by decide
theorem kb_59 : (Int8.ofInt 59).toInt32 = 59 := by decide
theorem kb_63 : (Int8.ofInt 63).toInt32 = 63 := by decide
theorem kb_96 : (Int8.ofInt 96).toInt32 = 96 := by decide
theorem kb_97 : (Int8.ofInt 97).toInt32 = 97 := by decide
theorem kb_99 : (Int8.ofInt 99).toInt32 = 99 := by decide
theorem kb_100 : (Int8.ofInt 100).toInt32 = 100 := by decide
theorem kb_101 : (Int8.ofInt 101).toInt32 = 101 := by decide
theorem kb_103 : (Int8.ofInt 103).toInt32 = 103 := by decide
theorem kb_104 : (Int8.ofInt 104).toInt32 = 104 := by decide
theorem kb_105 : (Int8.ofInt 105).toInt32 = 105 := by decide
theorem kb_108 : (Int8.ofInt 108).toInt32 = 108 := by decide
theorem kb_109 : (Int8.ofInt 109).toInt32 = 109 := by decide
theorem kb_110 : (Int8.ofInt 110).toInt32 = 110 := by decide
theorem kb_111 : (Int8.ofInt 111).toInt32 = 111 := by decide
theorem kb_112 : (Int8.ofInt 112).toInt32 = 112 := by decide
theorem kb_114 : (Int8.ofInt 114).toInt32 = 114 := by decide
theorem kb_115 : (Int8.ofInt 115).toInt32 = 115 := by decide
theorem kb_116 : (Int8.ofInt 116).toInt32 = 116 := by decide
theorem kb_117 : (Int8.ofInt 117).toInt32 = 117 := by decide
theorem kb_118 : (Int8.ofInt 118).toInt32 = 118 := by decide
theorem kb_119 : (Int8.ofInt 119).toInt32 = 119 := by decide
theorem kb_122 : (Int8.ofInt 122).toInt32 = 122 := by decide
theorem ki_m1 : Int32.ofInt (-1) = (-1) := by decide
theorem ki_0 : Int32.ofInt 0 = 0 := by decide
theorem ki_1 : Int32.ofInt 1 = 1 := by decide
theorem ki_2 : Int32.ofInt 2 = 2 := by decide
theorem ki_3 : Int32.ofInt 3 = 3 := by decide
theorem ki_4 : Int32.ofInt 4 = 4 := by decide
theorem ki_5 : Int32.ofInt 5 = 5 := by decide
theorem kl_0 : Int64.ofNat ((0 : Fin 2) : Nat) = 0 := by decide
theorem kn_m8 (x : Int32) : x + Int32.ofInt (-8) = x + (-8) := by rw [show Int32.ofInt (-8) = (-8) from by decide]
theorem kn_m1 (x : Int32) : x + Int32.ofInt (-1) = x + (-1) := by rw [show Int32.ofInt (-1) = (-1) from by decide]
theorem kn_1 (x : Int32) : x + Int32.ofInt 1 = x + 1 := by rw [show Int32.ofInt 1 = 1 from by decide]
theorem ks_135 : (Int16.ofInt 135).toInt32 = 135 := by decide
theorem ks_144 : (Int16.ofInt 144).toInt32 = 144 := by decide
theorem ks_181 : (Int16.ofInt 181).toInt32 = 181 := by decide
theorem ks_255 : (Int16.ofInt 255).toInt32 = 255 := by decide
theorem ks_360 : (Int16.ofInt 360).toInt32 = 360 := by decide
theorem ks_500 : (Int16.ofInt 500).toInt32 = 500 := by decide
theorem ks_800 : (Int16.ofInt 800).toInt32 = 800 := by decide
theorem ks_999 : (Int16.ofInt 999).toInt32 = 999 := by decide
theorem ks_1000 : (Int16.ofInt 1000).toInt32 = 1000 := by decide
theorem ks_1086 : (Int16.ofInt 1086).toInt32 = 1086 := by decide
theorem iw_0 : ∀ q ∈ u_ws RX0 TX0 17, q ∈ et_tb := et_uw [435, 437, 439, 441, 443, 445, 447, 449, 451, 453, 455, 457, 459, 461, 463, 465, 467] (by decide +kernel) (by decide +kernel)
theorem iw_1 : ∀ q ∈ u_ws RX1 TX1 6, q ∈ et_tb := et_uw [378, 380, 382, 384, 386, 388] (by decide +kernel) (by decide +kernel)
theorem iw_2 : ∀ q ∈ u_ws RX2 TX2 4, q ∈ et_tb := et_uw [482, 484, 486, 488] (by decide +kernel) (by decide +kernel)
theorem iw_3 : ∀ q ∈ u_ws RX3 TX3 3, q ∈ et_tb := et_uw [402, 404, 406] (by decide +kernel) (by decide +kernel)
theorem iw_4 : ∀ q ∈ u_ws RX4 TX4 11, q ∈ et_tb := et_uw [279, 281, 283, 285, 287, 289, 291, 293, 295, 297, 299] (by decide +kernel) (by decide +kernel)
theorem iw_5 : ∀ q ∈ u_ws RX5 TX5 6, q ∈ et_tb := et_uw [168, 170, 172, 174, 176, 178] (by decide +kernel) (by decide +kernel)
theorem iw_6 : ∀ q ∈ u_ws RX6 TX6 15, q ∈ et_tb := et_uw [230, 232, 234, 236, 238, 240, 242, 244, 246, 248, 250, 252, 254, 256, 258] (by decide +kernel) (by decide +kernel)
theorem iw_7 : ∀ q ∈ u_ws RX7 TX7 7, q ∈ et_tb := et_uw [337, 339, 341, 343, 345, 347, 349] (by decide +kernel) (by decide +kernel)
theorem iw_8 : ∀ q ∈ u_ws RX8 TX8 2, q ∈ et_tb := et_uw [314, 316] (by decide +kernel) (by decide +kernel)
theorem iw_9 : ∀ q ∈ u_ws RX9 TX9 18, q ∈ et_tb := et_uw [509, 511, 513, 515, 517, 519, 521, 523, 525, 527, 529, 531, 533, 535, 537, 539, 541, 543] (by decide +kernel) (by decide +kernel)
theorem iw_10 : ∀ q ∈ u_ws RX10 TX10 74, q ∈ et_tb := et_uw [1422, 1424, 1426, 1428, 1430, 1432, 1434, 1436, 1438, 1440, 1442, 1444, 1446, 1448, 1450, 1452, 1454, 1456, 1458, 1460, 1462, 1464, 1466, 1468, 1470, 1472, 1474, 1476, 1478, 1480, 1482, 1484, 1486, 1488, 1490, 1492, 1494, 1496, 1498, 1500, 1502, 1504, 1506, 1508, 1510, 1512, 1514, 1516, 1518, 1520, 1522, 1524, 1526, 1528, 1530, 1532, 1534, 1536, 1538, 1540, 1542, 1544, 1546, 1548, 1550, 1552, 1554, 1556, 1558, 1560, 1562, 1564, 1566, 1568] (by decide +kernel) (by decide +kernel)
theorem fl_1348 : et_FL RX10 122 10 0 (.int) false := ⟨RX10, TX10, 74, tyX10, rfl, by decide, iw_10, et_mt 1348 (by decide +kernel) rfl, tyX10_ok, nmX10, rfl, rfl⟩
theorem fl_1349 : et_FL RX10 260 10 1 (.int) false := ⟨RX10, TX10, 74, tyX10, rfl, by decide, iw_10, et_mt 1349 (by decide +kernel) rfl, tyX10_ok, nmX10, rfl, rfl⟩
theorem fl_1350 : et_FL RX10 263 10 2 (.int) false := ⟨RX10, TX10, 74, tyX10, rfl, by decide, iw_10, et_mt 1350 (by decide +kernel) rfl, tyX10_ok, nmX10, rfl, rfl⟩
theorem fl_1351 : et_FL RX10 7 10 3 (.int) false := ⟨RX10, TX10, 74, tyX10, rfl, by decide, iw_10, et_mt 1351 (by decide +kernel) rfl, tyX10_ok, nmX10, rfl, rfl⟩
theorem fl_1352 : et_FL RX10 266 10 4 (.int) false := ⟨RX10, TX10, 74, tyX10, rfl, by decide, iw_10, et_mt 1352 (by decide +kernel) rfl, tyX10_ok, nmX10, rfl, rfl⟩
theorem fl_1353 : et_FL RX10 269 10 5 (.int) false := ⟨RX10, TX10, 74, tyX10, rfl, by decide, iw_10, et_mt 1353 (by decide +kernel) rfl, tyX10_ok, nmX10, rfl, rfl⟩
theorem fl_1354 : et_FL RX10 272 10 6 (.int) false := ⟨RX10, TX10, 74, tyX10, rfl, by decide, iw_10, et_mt 1354 (by decide +kernel) rfl, tyX10_ok, nmX10, rfl, rfl⟩
theorem fl_1355 : et_FL RX10 13 10 7 (.array .int) true := ⟨RX10, TX10, 74, tyX10, rfl, by decide, iw_10, et_mt 1355 (by decide +kernel) rfl, tyX10_ok, nmX10, rfl, rfl⟩
theorem fl_1356 : et_FL RX10 17 10 8 (.array .int) true := ⟨RX10, TX10, 74, tyX10, rfl, by decide, iw_10, et_mt 1356 (by decide +kernel) rfl, tyX10_ok, nmX10, rfl, rfl⟩
theorem fl_1357 : et_FL RX10 20 10 9 (.array .int) true := ⟨RX10, TX10, 74, tyX10, rfl, by decide, iw_10, et_mt 1357 (by decide +kernel) rfl, tyX10_ok, nmX10, rfl, rfl⟩
theorem fl_1358 : et_FL RX10 23 10 10 (.array .int) true := ⟨RX10, TX10, 74, tyX10, rfl, by decide, iw_10, et_mt 1358 (by decide +kernel) rfl, tyX10_ok, nmX10, rfl, rfl⟩
theorem fl_1359 : et_FL RX10 26 10 11 (.array .int) true := ⟨RX10, TX10, 74, tyX10, rfl, by decide, iw_10, et_mt 1359 (by decide +kernel) rfl, tyX10_ok, nmX10, rfl, rfl⟩
theorem fl_1360 : et_FL RX10 29 10 12 (.array .int) true := ⟨RX10, TX10, 74, tyX10, rfl, by decide, iw_10, et_mt 1360 (by decide +kernel) rfl, tyX10_ok, nmX10, rfl, rfl⟩
theorem fl_1361 : et_FL RX10 32 10 13 (.array .int) true := ⟨RX10, TX10, 74, tyX10, rfl, by decide, iw_10, et_mt 1361 (by decide +kernel) rfl, tyX10_ok, nmX10, rfl, rfl⟩
theorem fl_1362 : et_FL RX10 35 10 14 (.array .int) true := ⟨RX10, TX10, 74, tyX10, rfl, by decide, iw_10, et_mt 1362 (by decide +kernel) rfl, tyX10_ok, nmX10, rfl, rfl⟩
theorem fl_1363 : et_FL RX10 38 10 15 (.array .int) true := ⟨RX10, TX10, 74, tyX10, rfl, by decide, iw_10, et_mt 1363 (by decide +kernel) rfl, tyX10_ok, nmX10, rfl, rfl⟩
theorem fl_1364 : et_FL RX10 41 10 16 (.array .int) true := ⟨RX10, TX10, 74, tyX10, rfl, by decide, iw_10, et_mt 1364 (by decide +kernel) rfl, tyX10_ok, nmX10, rfl, rfl⟩
theorem fl_1365 : et_FL RX10 125 10 17 (.int) false := ⟨RX10, TX10, 74, tyX10, rfl, by decide, iw_10, et_mt 1365 (by decide +kernel) rfl, tyX10_ok, nmX10, rfl, rfl⟩
theorem fl_1366 : et_FL RX10 173 10 18 (.int) false := ⟨RX10, TX10, 74, tyX10, rfl, by decide, iw_10, et_mt 1366 (by decide +kernel) rfl, tyX10_ok, nmX10, rfl, rfl⟩
theorem fl_1367 : et_FL RX10 44 10 19 (.int) false := ⟨RX10, TX10, 74, tyX10, rfl, by decide, iw_10, et_mt 1367 (by decide +kernel) rfl, tyX10_ok, nmX10, rfl, rfl⟩
theorem fl_1368 : et_FL RX10 47 10 20 (.array .int) true := ⟨RX10, TX10, 74, tyX10, rfl, by decide, iw_10, et_mt 1368 (by decide +kernel) rfl, tyX10_ok, nmX10, rfl, rfl⟩
theorem fl_1369 : et_FL RX10 132 10 21 (.int) false := ⟨RX10, TX10, 74, tyX10, rfl, by decide, iw_10, et_mt 1369 (by decide +kernel) rfl, tyX10_ok, nmX10, rfl, rfl⟩
theorem fl_1370 : et_FL RX10 135 10 22 (.int) false := ⟨RX10, TX10, 74, tyX10, rfl, by decide, iw_10, et_mt 1370 (by decide +kernel) rfl, tyX10_ok, nmX10, rfl, rfl⟩
theorem fl_1371 : et_FL RX10 152 10 23 (.int) false := ⟨RX10, TX10, 74, tyX10, rfl, by decide, iw_10, et_mt 1371 (by decide +kernel) rfl, tyX10_ok, nmX10, rfl, rfl⟩
theorem fl_1372 : et_FL RX10 142 10 24 (.int) false := ⟨RX10, TX10, 74, tyX10, rfl, by decide, iw_10, et_mt 1372 (by decide +kernel) rfl, tyX10_ok, nmX10, rfl, rfl⟩
theorem fl_1373 : et_FL RX10 162 10 25 (.int) false := ⟨RX10, TX10, 74, tyX10, rfl, by decide, iw_10, et_mt 1373 (by decide +kernel) rfl, tyX10_ok, nmX10, rfl, rfl⟩
theorem fl_1374 : et_FL RX10 149 10 26 (.int) false := ⟨RX10, TX10, 74, tyX10, rfl, by decide, iw_10, et_mt 1374 (by decide +kernel) rfl, tyX10_ok, nmX10, rfl, rfl⟩
theorem fl_1375 : et_FL RX10 145 10 27 (.long) false := ⟨RX10, TX10, 74, tyX10, rfl, by decide, iw_10, et_mt 1375 (by decide +kernel) rfl, tyX10_ok, nmX10, rfl, rfl⟩
theorem fl_1376 : et_FL RX10 210 10 28 (.int) false := ⟨RX10, TX10, 74, tyX10, rfl, by decide, iw_10, et_mt 1376 (by decide +kernel) rfl, tyX10_ok, nmX10, rfl, rfl⟩
theorem fl_1377 : et_FL RX10 225 10 29 (.int) false := ⟨RX10, TX10, 74, tyX10, rfl, by decide, iw_10, et_mt 1377 (by decide +kernel) rfl, tyX10_ok, nmX10, rfl, rfl⟩
theorem fl_1378 : et_FL RX10 201 10 30 (.int) false := ⟨RX10, TX10, 74, tyX10, rfl, by decide, iw_10, et_mt 1378 (by decide +kernel) rfl, tyX10_ok, nmX10, rfl, rfl⟩
theorem fl_1379 : et_FL RX10 219 10 31 (.int) false := ⟨RX10, TX10, 74, tyX10, rfl, by decide, iw_10, et_mt 1379 (by decide +kernel) rfl, tyX10_ok, nmX10, rfl, rfl⟩
theorem fl_1380 : et_FL RX10 207 10 32 (.int) false := ⟨RX10, TX10, 74, tyX10, rfl, by decide, iw_10, et_mt 1380 (by decide +kernel) rfl, tyX10_ok, nmX10, rfl, rfl⟩
theorem fl_1381 : et_FL RX10 216 10 33 (.int) false := ⟨RX10, TX10, 74, tyX10, rfl, by decide, iw_10, et_mt 1381 (by decide +kernel) rfl, tyX10_ok, nmX10, rfl, rfl⟩
theorem fl_1382 : et_FL RX10 228 10 34 (.boolean) false := ⟨RX10, TX10, 74, tyX10, rfl, by decide, iw_10, et_mt 1382 (by decide +kernel) rfl, tyX10_ok, nmX10, rfl, rfl⟩
theorem fl_1383 : et_FL RX10 231 10 35 (.boolean) false := ⟨RX10, TX10, 74, tyX10, rfl, by decide, iw_10, et_mt 1383 (by decide +kernel) rfl, tyX10_ok, nmX10, rfl, rfl⟩
theorem fl_1384 : et_FL RX10 197 10 36 (.boolean) false := ⟨RX10, TX10, 74, tyX10, rfl, by decide, iw_10, et_mt 1384 (by decide +kernel) rfl, tyX10_ok, nmX10, rfl, rfl⟩
theorem fl_1385 : et_FL RX10 50 10 37 (.array .int) true := ⟨RX10, TX10, 74, tyX10, rfl, by decide, iw_10, et_mt 1385 (by decide +kernel) rfl, tyX10_ok, nmX10, rfl, rfl⟩
theorem fl_1386 : et_FL RX10 53 10 38 (.array .int) true := ⟨RX10, TX10, 74, tyX10, rfl, by decide, iw_10, et_mt 1386 (by decide +kernel) rfl, tyX10_ok, nmX10, rfl, rfl⟩
theorem fl_1387 : et_FL RX10 56 10 39 (.array .int) true := ⟨RX10, TX10, 74, tyX10, rfl, by decide, iw_10, et_mt 1387 (by decide +kernel) rfl, tyX10_ok, nmX10, rfl, rfl⟩
theorem fl_1388 : et_FL RX10 59 10 40 (.array .int) true := ⟨RX10, TX10, 74, tyX10, rfl, by decide, iw_10, et_mt 1388 (by decide +kernel) rfl, tyX10_ok, nmX10, rfl, rfl⟩
theorem fl_1389 : et_FL RX10 62 10 41 (.array .int) true := ⟨RX10, TX10, 74, tyX10, rfl, by decide, iw_10, et_mt 1389 (by decide +kernel) rfl, tyX10_ok, nmX10, rfl, rfl⟩
theorem fl_1390 : et_FL RX10 65 10 42 (.array .int) true := ⟨RX10, TX10, 74, tyX10, rfl, by decide, iw_10, et_mt 1390 (by decide +kernel) rfl, tyX10_ok, nmX10, rfl, rfl⟩
theorem fl_1391 : et_FL RX10 68 10 43 (.array .int) true := ⟨RX10, TX10, 74, tyX10, rfl, by decide, iw_10, et_mt 1391 (by decide +kernel) rfl, tyX10_ok, nmX10, rfl, rfl⟩
theorem fl_1392 : et_FL RX10 71 10 44 (.array .int) true := ⟨RX10, TX10, 74, tyX10, rfl, by decide, iw_10, et_mt 1392 (by decide +kernel) rfl, tyX10_ok, nmX10, rfl, rfl⟩
theorem fl_1393 : et_FL RX10 74 10 45 (.array .int) true := ⟨RX10, TX10, 74, tyX10, rfl, by decide, iw_10, et_mt 1393 (by decide +kernel) rfl, tyX10_ok, nmX10, rfl, rfl⟩
theorem fl_1394 : et_FL RX10 77 10 46 (.array .int) true := ⟨RX10, TX10, 74, tyX10, rfl, by decide, iw_10, et_mt 1394 (by decide +kernel) rfl, tyX10_ok, nmX10, rfl, rfl⟩
theorem fl_1395 : et_FL RX10 80 10 47 (.array .int) true := ⟨RX10, TX10, 74, tyX10, rfl, by decide, iw_10, et_mt 1395 (by decide +kernel) rfl, tyX10_ok, nmX10, rfl, rfl⟩
theorem fl_1396 : et_FL RX10 305 10 48 (.int) false := ⟨RX10, TX10, 74, tyX10, rfl, by decide, iw_10, et_mt 1396 (by decide +kernel) rfl, tyX10_ok, nmX10, rfl, rfl⟩
theorem fl_1397 : et_FL RX10 321 10 49 (.int) false := ⟨RX10, TX10, 74, tyX10, rfl, by decide, iw_10, et_mt 1397 (by decide +kernel) rfl, tyX10_ok, nmX10, rfl, rfl⟩
theorem fl_1398 : et_FL RX10 279 10 50 (.int) false := ⟨RX10, TX10, 74, tyX10, rfl, by decide, iw_10, et_mt 1398 (by decide +kernel) rfl, tyX10_ok, nmX10, rfl, rfl⟩
theorem fl_1399 : et_FL RX10 83 10 51 (.array .int) true := ⟨RX10, TX10, 74, tyX10, rfl, by decide, iw_10, et_mt 1399 (by decide +kernel) rfl, tyX10_ok, nmX10, rfl, rfl⟩
theorem fl_1400 : et_FL RX10 86 10 52 (.array .int) true := ⟨RX10, TX10, 74, tyX10, rfl, by decide, iw_10, et_mt 1400 (by decide +kernel) rfl, tyX10_ok, nmX10, rfl, rfl⟩
theorem fl_1401 : et_FL RX10 89 10 53 (.array .int) true := ⟨RX10, TX10, 74, tyX10, rfl, by decide, iw_10, et_mt 1401 (by decide +kernel) rfl, tyX10_ok, nmX10, rfl, rfl⟩
theorem fl_1402 : et_FL RX10 92 10 54 (.array .int) true := ⟨RX10, TX10, 74, tyX10, rfl, by decide, iw_10, et_mt 1402 (by decide +kernel) rfl, tyX10_ok, nmX10, rfl, rfl⟩
theorem fl_1403 : et_FL RX10 95 10 55 (.array .int) true := ⟨RX10, TX10, 74, tyX10, rfl, by decide, iw_10, et_mt 1403 (by decide +kernel) rfl, tyX10_ok, nmX10, rfl, rfl⟩
theorem fl_1404 : et_FL RX10 98 10 56 (.array .int) true := ⟨RX10, TX10, 74, tyX10, rfl, by decide, iw_10, et_mt 1404 (by decide +kernel) rfl, tyX10_ok, nmX10, rfl, rfl⟩
theorem fl_1405 : et_FL RX10 101 10 57 (.array .int) true := ⟨RX10, TX10, 74, tyX10, rfl, by decide, iw_10, et_mt 1405 (by decide +kernel) rfl, tyX10_ok, nmX10, rfl, rfl⟩
theorem fl_1406 : et_FL RX10 104 10 58 (.array .int) true := ⟨RX10, TX10, 74, tyX10, rfl, by decide, iw_10, et_mt 1406 (by decide +kernel) rfl, tyX10_ok, nmX10, rfl, rfl⟩
theorem fl_1407 : et_FL RX10 343 10 59 (.int) false := ⟨RX10, TX10, 74, tyX10, rfl, by decide, iw_10, et_mt 1407 (by decide +kernel) rfl, tyX10_ok, nmX10, rfl, rfl⟩
theorem fl_1408 : et_FL RX10 352 10 60 (.int) false := ⟨RX10, TX10, 74, tyX10, rfl, by decide, iw_10, et_mt 1408 (by decide +kernel) rfl, tyX10_ok, nmX10, rfl, rfl⟩
theorem fl_1409 : et_FL RX10 355 10 61 (.int) false := ⟨RX10, TX10, 74, tyX10, rfl, by decide, iw_10, et_mt 1409 (by decide +kernel) rfl, tyX10_ok, nmX10, rfl, rfl⟩
theorem fl_1410 : et_FL RX10 375 10 62 (.int) false := ⟨RX10, TX10, 74, tyX10, rfl, by decide, iw_10, et_mt 1410 (by decide +kernel) rfl, tyX10_ok, nmX10, rfl, rfl⟩
theorem fl_1411 : et_FL RX10 107 10 63 (.array .int) true := ⟨RX10, TX10, 74, tyX10, rfl, by decide, iw_10, et_mt 1411 (by decide +kernel) rfl, tyX10_ok, nmX10, rfl, rfl⟩
theorem fl_1412 : et_FL RX10 110 10 64 (.array .int) true := ⟨RX10, TX10, 74, tyX10, rfl, by decide, iw_10, et_mt 1412 (by decide +kernel) rfl, tyX10_ok, nmX10, rfl, rfl⟩
theorem fl_1413 : et_FL RX10 113 10 65 (.int) false := ⟨RX10, TX10, 74, tyX10, rfl, by decide, iw_10, et_mt 1413 (by decide +kernel) rfl, tyX10_ok, nmX10, rfl, rfl⟩
theorem fl_1414 : et_FL RX10 116 10 66 (.array .int) true := ⟨RX10, TX10, 74, tyX10, rfl, by decide, iw_10, et_mt 1414 (by decide +kernel) rfl, tyX10_ok, nmX10, rfl, rfl⟩
theorem fl_1415 : et_FL RX10 282 10 67 (.int) false := ⟨RX10, TX10, 74, tyX10, rfl, by decide, iw_10, et_mt 1415 (by decide +kernel) rfl, tyX10_ok, nmX10, rfl, rfl⟩
theorem fl_1416 : et_FL RX10 285 10 68 (.int) false := ⟨RX10, TX10, 74, tyX10, rfl, by decide, iw_10, et_mt 1416 (by decide +kernel) rfl, tyX10_ok, nmX10, rfl, rfl⟩
theorem fl_1417 : et_FL RX10 288 10 69 (.boolean) false := ⟨RX10, TX10, 74, tyX10, rfl, by decide, iw_10, et_mt 1417 (by decide +kernel) rfl, tyX10_ok, nmX10, rfl, rfl⟩
theorem fl_1418 : et_FL RX10 430 10 70 (.int) false := ⟨RX10, TX10, 74, tyX10, rfl, by decide, iw_10, et_mt 1418 (by decide +kernel) rfl, tyX10_ok, nmX10, rfl, rfl⟩
theorem fl_1419 : et_FL RX10 433 10 71 (.int) false := ⟨RX10, TX10, 74, tyX10, rfl, by decide, iw_10, et_mt 1419 (by decide +kernel) rfl, tyX10_ok, nmX10, rfl, rfl⟩
theorem fl_1420 : et_FL RX10 436 10 72 (.int) false := ⟨RX10, TX10, 74, tyX10, rfl, by decide, iw_10, et_mt 1420 (by decide +kernel) rfl, tyX10_ok, nmX10, rfl, rfl⟩
theorem fl_1421 : et_FL RX10 119 10 73 (.array .int) true := ⟨RX10, TX10, 74, tyX10, rfl, by decide, iw_10, et_mt 1421 (by decide +kernel) rfl, tyX10_ok, nmX10, rfl, rfl⟩
theorem fl_156 : et_FL RX5 11 5 0 (.array .byte) true := ⟨RX5, TX5, 6, tyX5, rfl, by decide, iw_5, et_mt 156 (by decide +kernel) rfl, tyX5_ok, nmX5, rfl, rfl⟩
theorem fl_157 : et_FL RX5 15 5 1 (.array .int) true := ⟨RX5, TX5, 6, tyX5, rfl, by decide, iw_5, et_mt 157 (by decide +kernel) rfl, tyX5_ok, nmX5, rfl, rfl⟩
theorem fl_158 : et_FL RX5 28 5 2 (.int) false := ⟨RX5, TX5, 6, tyX5, rfl, by decide, iw_5, et_mt 158 (by decide +kernel) rfl, tyX5_ok, nmX5, rfl, rfl⟩
theorem fl_159 : et_FL RX8 21 5 2 (.int) false := ⟨RX5, TX5, 6, tyX5, rfl, by decide, iw_5, et_mt 159 (by decide +kernel) rfl, tyX5_ok, nmX5, rfl, rfl⟩
theorem fl_160 : et_FL RX9 132 5 2 (.int) false := ⟨RX5, TX5, 6, tyX5, rfl, by decide, iw_5, et_mt 160 (by decide +kernel) rfl, tyX5_ok, nmX5, rfl, rfl⟩
theorem fl_161 : et_FL RX4 170 5 2 (.int) false := ⟨RX5, TX5, 6, tyX5, rfl, by decide, iw_5, et_mt 161 (by decide +kernel) rfl, tyX5_ok, nmX5, rfl, rfl⟩
theorem fl_162 : et_FL RX5 32 5 3 (.int) false := ⟨RX5, TX5, 6, tyX5, rfl, by decide, iw_5, et_mt 162 (by decide +kernel) rfl, tyX5_ok, nmX5, rfl, rfl⟩
theorem fl_163 : et_FL RX9 137 5 3 (.int) false := ⟨RX5, TX5, 6, tyX5, rfl, by decide, iw_5, et_mt 163 (by decide +kernel) rfl, tyX5_ok, nmX5, rfl, rfl⟩
theorem fl_164 : et_FL RX4 190 5 3 (.int) false := ⟨RX5, TX5, 6, tyX5, rfl, by decide, iw_5, et_mt 164 (by decide +kernel) rfl, tyX5_ok, nmX5, rfl, rfl⟩
theorem fl_165 : et_FL RX5 19 5 4 (.array .byte) true := ⟨RX5, TX5, 6, tyX5, rfl, by decide, iw_5, et_mt 165 (by decide +kernel) rfl, tyX5_ok, nmX5, rfl, rfl⟩
theorem fl_166 : et_FL RX9 220 5 4 (.array .byte) true := ⟨RX5, TX5, 6, tyX5, rfl, by decide, iw_5, et_mt 166 (by decide +kernel) rfl, tyX5_ok, nmX5, rfl, rfl⟩
theorem fl_167 : et_FL RX5 56 5 5 (.int) false := ⟨RX5, TX5, 6, tyX5, rfl, by decide, iw_5, et_mt 167 (by decide +kernel) rfl, tyX5_ok, nmX5, rfl, rfl⟩
theorem fl_183 : et_FL RX6 12 6 0 (.object "EndingTown$Tongue") true := ⟨RX6, TX6, 15, tyX6, rfl, by decide, iw_6, et_mt 183 (by decide +kernel) rfl, tyX6_ok, nmX6, rfl, rfl⟩
theorem fl_184 : et_FL RX7 46 6 0 (.object "EndingTown$Tongue") true := ⟨RX6, TX6, 15, tyX6, rfl, by decide, iw_6, et_mt 184 (by decide +kernel) rfl, tyX6_ok, nmX6, rfl, rfl⟩
theorem fl_185 : et_FL RX4 96 6 0 (.object "EndingTown$Tongue") true := ⟨RX6, TX6, 15, tyX6, rfl, by decide, iw_6, et_mt 185 (by decide +kernel) rfl, tyX6_ok, nmX6, rfl, rfl⟩
theorem fl_186 : et_FL RX9 128 6 0 (.object "EndingTown$Tongue") true := ⟨RX6, TX6, 15, tyX6, rfl, by decide, iw_6, et_mt 186 (by decide +kernel) rfl, tyX6_ok, nmX6, rfl, rfl⟩
theorem fl_187 : et_FL RX6 18 6 1 (.int) false := ⟨RX6, TX6, 15, tyX6, rfl, by decide, iw_6, et_mt 187 (by decide +kernel) rfl, tyX6_ok, nmX6, rfl, rfl⟩
theorem fl_188 : et_FL RX9 140 6 1 (.int) false := ⟨RX6, TX6, 15, tyX6, rfl, by decide, iw_6, et_mt 188 (by decide +kernel) rfl, tyX6_ok, nmX6, rfl, rfl⟩
theorem fl_189 : et_FL RX4 199 6 1 (.int) false := ⟨RX6, TX6, 15, tyX6, rfl, by decide, iw_6, et_mt 189 (by decide +kernel) rfl, tyX6_ok, nmX6, rfl, rfl⟩
theorem fl_190 : et_FL RX6 22 6 2 (.array .int) true := ⟨RX6, TX6, 15, tyX6, rfl, by decide, iw_6, et_mt 190 (by decide +kernel) rfl, tyX6_ok, nmX6, rfl, rfl⟩
theorem fl_191 : et_FL RX4 204 6 2 (.array .int) true := ⟨RX6, TX6, 15, tyX6, rfl, by decide, iw_6, et_mt 191 (by decide +kernel) rfl, tyX6_ok, nmX6, rfl, rfl⟩
theorem fl_192 : et_FL RX6 50 6 3 (.int) false := ⟨RX6, TX6, 15, tyX6, rfl, by decide, iw_6, et_mt 192 (by decide +kernel) rfl, tyX6_ok, nmX6, rfl, rfl⟩
theorem fl_193 : et_FL RX9 143 6 3 (.int) false := ⟨RX6, TX6, 15, tyX6, rfl, by decide, iw_6, et_mt 193 (by decide +kernel) rfl, tyX6_ok, nmX6, rfl, rfl⟩
theorem fl_194 : et_FL RX4 207 6 3 (.int) false := ⟨RX6, TX6, 15, tyX6, rfl, by decide, iw_6, et_mt 194 (by decide +kernel) rfl, tyX6_ok, nmX6, rfl, rfl⟩
theorem fl_195 : et_FL RX0 196 6 3 (.int) false := ⟨RX6, TX6, 15, tyX6, rfl, by decide, iw_6, et_mt 195 (by decide +kernel) rfl, tyX6_ok, nmX6, rfl, rfl⟩
theorem fl_196 : et_FL RX6 26 6 4 (.array .int) true := ⟨RX6, TX6, 15, tyX6, rfl, by decide, iw_6, et_mt 196 (by decide +kernel) rfl, tyX6_ok, nmX6, rfl, rfl⟩
theorem fl_197 : et_FL RX4 254 6 4 (.array .int) true := ⟨RX6, TX6, 15, tyX6, rfl, by decide, iw_6, et_mt 197 (by decide +kernel) rfl, tyX6_ok, nmX6, rfl, rfl⟩
theorem fl_198 : et_FL RX6 53 6 5 (.int) false := ⟨RX6, TX6, 15, tyX6, rfl, by decide, iw_6, et_mt 198 (by decide +kernel) rfl, tyX6_ok, nmX6, rfl, rfl⟩
theorem fl_199 : et_FL RX3 28 6 5 (.int) false := ⟨RX6, TX6, 15, tyX6, rfl, by decide, iw_6, et_mt 199 (by decide +kernel) rfl, tyX6_ok, nmX6, rfl, rfl⟩
theorem fl_200 : et_FL RX9 146 6 5 (.int) false := ⟨RX6, TX6, 15, tyX6, rfl, by decide, iw_6, et_mt 200 (by decide +kernel) rfl, tyX6_ok, nmX6, rfl, rfl⟩
theorem fl_201 : et_FL RX0 158 6 5 (.int) false := ⟨RX6, TX6, 15, tyX6, rfl, by decide, iw_6, et_mt 201 (by decide +kernel) rfl, tyX6_ok, nmX6, rfl, rfl⟩
theorem fl_202 : et_FL RX4 210 6 5 (.int) false := ⟨RX6, TX6, 15, tyX6, rfl, by decide, iw_6, et_mt 202 (by decide +kernel) rfl, tyX6_ok, nmX6, rfl, rfl⟩
theorem fl_203 : et_FL RX6 29 6 6 (.array .int) true := ⟨RX6, TX6, 15, tyX6, rfl, by decide, iw_6, et_mt 203 (by decide +kernel) rfl, tyX6_ok, nmX6, rfl, rfl⟩
theorem fl_204 : et_FL RX9 193 6 6 (.array .int) true := ⟨RX6, TX6, 15, tyX6, rfl, by decide, iw_6, et_mt 204 (by decide +kernel) rfl, tyX6_ok, nmX6, rfl, rfl⟩
theorem fl_205 : et_FL RX4 217 6 6 (.array .int) true := ⟨RX6, TX6, 15, tyX6, rfl, by decide, iw_6, et_mt 205 (by decide +kernel) rfl, tyX6_ok, nmX6, rfl, rfl⟩
theorem fl_206 : et_FL RX6 32 6 7 (.array .int) true := ⟨RX6, TX6, 15, tyX6, rfl, by decide, iw_6, et_mt 206 (by decide +kernel) rfl, tyX6_ok, nmX6, rfl, rfl⟩
theorem fl_207 : et_FL RX9 197 6 7 (.array .int) true := ⟨RX6, TX6, 15, tyX6, rfl, by decide, iw_6, et_mt 207 (by decide +kernel) rfl, tyX6_ok, nmX6, rfl, rfl⟩
theorem fl_208 : et_FL RX4 220 6 7 (.array .int) true := ⟨RX6, TX6, 15, tyX6, rfl, by decide, iw_6, et_mt 208 (by decide +kernel) rfl, tyX6_ok, nmX6, rfl, rfl⟩
theorem fl_209 : et_FL RX6 35 6 8 (.array .int) true := ⟨RX6, TX6, 15, tyX6, rfl, by decide, iw_6, et_mt 209 (by decide +kernel) rfl, tyX6_ok, nmX6, rfl, rfl⟩
theorem fl_210 : et_FL RX9 200 6 8 (.array .int) true := ⟨RX6, TX6, 15, tyX6, rfl, by decide, iw_6, et_mt 210 (by decide +kernel) rfl, tyX6_ok, nmX6, rfl, rfl⟩
theorem fl_211 : et_FL RX4 223 6 8 (.array .int) true := ⟨RX6, TX6, 15, tyX6, rfl, by decide, iw_6, et_mt 211 (by decide +kernel) rfl, tyX6_ok, nmX6, rfl, rfl⟩
theorem fl_212 : et_FL RX6 59 6 9 (.int) false := ⟨RX6, TX6, 15, tyX6, rfl, by decide, iw_6, et_mt 212 (by decide +kernel) rfl, tyX6_ok, nmX6, rfl, rfl⟩
theorem fl_213 : et_FL RX9 203 6 9 (.int) false := ⟨RX6, TX6, 15, tyX6, rfl, by decide, iw_6, et_mt 213 (by decide +kernel) rfl, tyX6_ok, nmX6, rfl, rfl⟩
theorem fl_214 : et_FL RX4 232 6 9 (.int) false := ⟨RX6, TX6, 15, tyX6, rfl, by decide, iw_6, et_mt 214 (by decide +kernel) rfl, tyX6_ok, nmX6, rfl, rfl⟩
theorem fl_215 : et_FL RX6 62 6 10 (.int) false := ⟨RX6, TX6, 15, tyX6, rfl, by decide, iw_6, et_mt 215 (by decide +kernel) rfl, tyX6_ok, nmX6, rfl, rfl⟩
theorem fl_216 : et_FL RX3 31 6 10 (.int) false := ⟨RX6, TX6, 15, tyX6, rfl, by decide, iw_6, et_mt 216 (by decide +kernel) rfl, tyX6_ok, nmX6, rfl, rfl⟩
theorem fl_217 : et_FL RX9 210 6 10 (.int) false := ⟨RX6, TX6, 15, tyX6, rfl, by decide, iw_6, et_mt 217 (by decide +kernel) rfl, tyX6_ok, nmX6, rfl, rfl⟩
theorem fl_218 : et_FL RX4 236 6 10 (.int) false := ⟨RX6, TX6, 15, tyX6, rfl, by decide, iw_6, et_mt 218 (by decide +kernel) rfl, tyX6_ok, nmX6, rfl, rfl⟩
theorem fl_219 : et_FL RX6 56 6 11 (.int) false := ⟨RX6, TX6, 15, tyX6, rfl, by decide, iw_6, et_mt 219 (by decide +kernel) rfl, tyX6_ok, nmX6, rfl, rfl⟩
theorem fl_220 : et_FL RX9 149 6 11 (.int) false := ⟨RX6, TX6, 15, tyX6, rfl, by decide, iw_6, et_mt 220 (by decide +kernel) rfl, tyX6_ok, nmX6, rfl, rfl⟩
theorem fl_221 : et_FL RX0 177 6 11 (.int) false := ⟨RX6, TX6, 15, tyX6, rfl, by decide, iw_6, et_mt 221 (by decide +kernel) rfl, tyX6_ok, nmX6, rfl, rfl⟩
theorem fl_222 : et_FL RX4 238 6 11 (.int) false := ⟨RX6, TX6, 15, tyX6, rfl, by decide, iw_6, et_mt 222 (by decide +kernel) rfl, tyX6_ok, nmX6, rfl, rfl⟩
theorem fl_223 : et_FL RX6 38 6 12 (.array .int) true := ⟨RX6, TX6, 15, tyX6, rfl, by decide, iw_6, et_mt 223 (by decide +kernel) rfl, tyX6_ok, nmX6, rfl, rfl⟩
theorem fl_224 : et_FL RX4 241 6 12 (.array .int) true := ⟨RX6, TX6, 15, tyX6, rfl, by decide, iw_6, et_mt 224 (by decide +kernel) rfl, tyX6_ok, nmX6, rfl, rfl⟩
theorem fl_225 : et_FL RX6 41 6 13 (.array .int) true := ⟨RX6, TX6, 15, tyX6, rfl, by decide, iw_6, et_mt 225 (by decide +kernel) rfl, tyX6_ok, nmX6, rfl, rfl⟩
theorem fl_226 : et_FL RX0 184 6 13 (.array .int) true := ⟨RX6, TX6, 15, tyX6, rfl, by decide, iw_6, et_mt 226 (by decide +kernel) rfl, tyX6_ok, nmX6, rfl, rfl⟩
theorem fl_227 : et_FL RX4 244 6 13 (.array .int) true := ⟨RX6, TX6, 15, tyX6, rfl, by decide, iw_6, et_mt 227 (by decide +kernel) rfl, tyX6_ok, nmX6, rfl, rfl⟩
theorem fl_228 : et_FL RX6 44 6 14 (.array .int) true := ⟨RX6, TX6, 15, tyX6, rfl, by decide, iw_6, et_mt 228 (by decide +kernel) rfl, tyX6_ok, nmX6, rfl, rfl⟩
theorem fl_229 : et_FL RX4 257 6 14 (.array .int) true := ⟨RX6, TX6, 15, tyX6, rfl, by decide, iw_6, et_mt 229 (by decide +kernel) rfl, tyX6_ok, nmX6, rfl, rfl⟩
theorem fl_267 : et_FL RX4 15 4 0 (.array .byte) true := ⟨RX4, TX4, 11, tyX4, rfl, by decide, iw_4, et_mt 267 (by decide +kernel) rfl, tyX4_ok, nmX4, rfl, rfl⟩
theorem fl_268 : et_FL RX4 25 4 1 (.int) false := ⟨RX4, TX4, 11, tyX4, rfl, by decide, iw_4, et_mt 268 (by decide +kernel) rfl, tyX4_ok, nmX4, rfl, rfl⟩
theorem fl_269 : et_FL RX4 28 4 2 (.int) false := ⟨RX4, TX4, 11, tyX4, rfl, by decide, iw_4, et_mt 269 (by decide +kernel) rfl, tyX4_ok, nmX4, rfl, rfl⟩
theorem fl_270 : et_FL RX4 49 4 3 (.int) false := ⟨RX4, TX4, 11, tyX4, rfl, by decide, iw_4, et_mt 270 (by decide +kernel) rfl, tyX4_ok, nmX4, rfl, rfl⟩
theorem fl_271 : et_FL RX4 59 4 4 (.int) false := ⟨RX4, TX4, 11, tyX4, rfl, by decide, iw_4, et_mt 271 (by decide +kernel) rfl, tyX4_ok, nmX4, rfl, rfl⟩
theorem fl_272 : et_FL RX4 78 4 5 (.int) false := ⟨RX4, TX4, 11, tyX4, rfl, by decide, iw_4, et_mt 272 (by decide +kernel) rfl, tyX4_ok, nmX4, rfl, rfl⟩
theorem fl_273 : et_FL RX4 66 4 6 (.int) false := ⟨RX4, TX4, 11, tyX4, rfl, by decide, iw_4, et_mt 273 (by decide +kernel) rfl, tyX4_ok, nmX4, rfl, rfl⟩
theorem fl_274 : et_FL RX4 31 4 7 (.boolean) false := ⟨RX4, TX4, 11, tyX4, rfl, by decide, iw_4, et_mt 274 (by decide +kernel) rfl, tyX4_ok, nmX4, rfl, rfl⟩
theorem fl_275 : et_FL RX4 35 4 8 (.boolean) false := ⟨RX4, TX4, 11, tyX4, rfl, by decide, iw_4, et_mt 275 (by decide +kernel) rfl, tyX4_ok, nmX4, rfl, rfl⟩
theorem fl_276 : et_FL RX4 38 4 9 (.int) false := ⟨RX4, TX4, 11, tyX4, rfl, by decide, iw_4, et_mt 276 (by decide +kernel) rfl, tyX4_ok, nmX4, rfl, rfl⟩
theorem fl_277 : et_FL RX4 9 4 10 (.int) false := ⟨RX4, TX4, 11, tyX4, rfl, by decide, iw_4, et_mt 277 (by decide +kernel) rfl, tyX4_ok, nmX4, rfl, rfl⟩
theorem fl_278 : et_FL RX9 104 4 10 (.int) false := ⟨RX4, TX4, 11, tyX4, rfl, by decide, iw_4, et_mt 278 (by decide +kernel) rfl, tyX4_ok, nmX4, rfl, rfl⟩
theorem fl_308 : et_FL RX8 9 8 0 (.array .int) true := ⟨RX8, TX8, 2, tyX8, rfl, by decide, iw_8, et_mt 308 (by decide +kernel) rfl, tyX8_ok, nmX8, rfl, rfl⟩
theorem fl_309 : et_FL RX7 69 8 0 (.array .int) true := ⟨RX8, TX8, 2, tyX8, rfl, by decide, iw_8, et_mt 309 (by decide +kernel) rfl, tyX8_ok, nmX8, rfl, rfl⟩
theorem fl_310 : et_FL RX9 230 8 0 (.array .int) true := ⟨RX8, TX8, 2, tyX8, rfl, by decide, iw_8, et_mt 310 (by decide +kernel) rfl, tyX8_ok, nmX8, rfl, rfl⟩
theorem fl_311 : et_FL RX8 15 8 1 (.int) false := ⟨RX8, TX8, 2, tyX8, rfl, by decide, iw_8, et_mt 311 (by decide +kernel) rfl, tyX8_ok, nmX8, rfl, rfl⟩
theorem fl_312 : et_FL RX7 66 8 1 (.int) false := ⟨RX8, TX8, 2, tyX8, rfl, by decide, iw_8, et_mt 312 (by decide +kernel) rfl, tyX8_ok, nmX8, rfl, rfl⟩
theorem fl_313 : et_FL RX9 227 8 1 (.int) false := ⟨RX8, TX8, 2, tyX8, rfl, by decide, iw_8, et_mt 313 (by decide +kernel) rfl, tyX8_ok, nmX8, rfl, rfl⟩
theorem fl_327 : et_FL RX7 18 7 0 (.array .byte) true := ⟨RX7, TX7, 7, tyX7, rfl, by decide, iw_7, et_mt 327 (by decide +kernel) rfl, tyX7_ok, nmX7, rfl, rfl⟩
theorem fl_328 : et_FL RX7 12 7 1 (.object "EndingTown$Ways") true := ⟨RX7, TX7, 7, tyX7, rfl, by decide, iw_7, et_mt 328 (by decide +kernel) rfl, tyX7_ok, nmX7, rfl, rfl⟩
theorem fl_329 : et_FL RX7 22 7 2 (.int) false := ⟨RX7, TX7, 7, tyX7, rfl, by decide, iw_7, et_mt 329 (by decide +kernel) rfl, tyX7_ok, nmX7, rfl, rfl⟩
theorem fl_330 : et_FL RX7 32 7 3 (.int) false := ⟨RX7, TX7, 7, tyX7, rfl, by decide, iw_7, et_mt 330 (by decide +kernel) rfl, tyX7_ok, nmX7, rfl, rfl⟩
theorem fl_331 : et_FL RX7 35 7 4 (.boolean) false := ⟨RX7, TX7, 7, tyX7, rfl, by decide, iw_7, et_mt 331 (by decide +kernel) rfl, tyX7_ok, nmX7, rfl, rfl⟩
theorem fl_332 : et_FL RX9 247 7 4 (.boolean) false := ⟨RX7, TX7, 7, tyX7, rfl, by decide, iw_7, et_mt 332 (by decide +kernel) rfl, tyX7_ok, nmX7, rfl, rfl⟩
theorem fl_333 : et_FL RX7 80 7 5 (.int) false := ⟨RX7, TX7, 7, tyX7, rfl, by decide, iw_7, et_mt 333 (by decide +kernel) rfl, tyX7_ok, nmX7, rfl, rfl⟩
theorem fl_334 : et_FL RX9 241 7 5 (.int) false := ⟨RX7, TX7, 7, tyX7, rfl, by decide, iw_7, et_mt 334 (by decide +kernel) rfl, tyX7_ok, nmX7, rfl, rfl⟩
theorem fl_335 : et_FL RX7 73 7 6 (.int) false := ⟨RX7, TX7, 7, tyX7, rfl, by decide, iw_7, et_mt 335 (by decide +kernel) rfl, tyX7_ok, nmX7, rfl, rfl⟩
theorem fl_336 : et_FL RX9 244 7 6 (.int) false := ⟨RX7, TX7, 7, tyX7, rfl, by decide, iw_7, et_mt 336 (by decide +kernel) rfl, tyX7_ok, nmX7, rfl, rfl⟩
theorem fl_358 : et_FL RX1 28 1 0 (.int) false := ⟨RX1, TX1, 6, tyX1, rfl, by decide, iw_1, et_mt 358 (by decide +kernel) rfl, tyX1_ok, nmX1, rfl, rfl⟩
theorem fl_359 : et_FL RX2 48 1 0 (.int) false := ⟨RX1, TX1, 6, tyX1, rfl, by decide, iw_1, et_mt 359 (by decide +kernel) rfl, tyX1_ok, nmX1, rfl, rfl⟩
theorem fl_360 : et_FL RX9 111 1 0 (.int) false := ⟨RX1, TX1, 6, tyX1, rfl, by decide, iw_1, et_mt 360 (by decide +kernel) rfl, tyX1_ok, nmX1, rfl, rfl⟩
theorem fl_361 : et_FL RX0 89 1 0 (.int) false := ⟨RX1, TX1, 6, tyX1, rfl, by decide, iw_1, et_mt 361 (by decide +kernel) rfl, tyX1_ok, nmX1, rfl, rfl⟩
theorem fl_362 : et_FL RX1 9 1 1 (.array .int) true := ⟨RX1, TX1, 6, tyX1, rfl, by decide, iw_1, et_mt 362 (by decide +kernel) rfl, tyX1_ok, nmX1, rfl, rfl⟩
theorem fl_363 : et_FL RX0 92 1 1 (.array .int) true := ⟨RX1, TX1, 6, tyX1, rfl, by decide, iw_1, et_mt 363 (by decide +kernel) rfl, tyX1_ok, nmX1, rfl, rfl⟩
theorem fl_364 : et_FL RX9 250 1 1 (.array .int) true := ⟨RX1, TX1, 6, tyX1, rfl, by decide, iw_1, et_mt 364 (by decide +kernel) rfl, tyX1_ok, nmX1, rfl, rfl⟩
theorem fl_365 : et_FL RX1 15 1 2 (.array .int) true := ⟨RX1, TX1, 6, tyX1, rfl, by decide, iw_1, et_mt 365 (by decide +kernel) rfl, tyX1_ok, nmX1, rfl, rfl⟩
theorem fl_366 : et_FL RX0 95 1 2 (.array .int) true := ⟨RX1, TX1, 6, tyX1, rfl, by decide, iw_1, et_mt 366 (by decide +kernel) rfl, tyX1_ok, nmX1, rfl, rfl⟩
theorem fl_367 : et_FL RX9 253 1 2 (.array .int) true := ⟨RX1, TX1, 6, tyX1, rfl, by decide, iw_1, et_mt 367 (by decide +kernel) rfl, tyX1_ok, nmX1, rfl, rfl⟩
theorem fl_368 : et_FL RX1 18 1 3 (.array .int) true := ⟨RX1, TX1, 6, tyX1, rfl, by decide, iw_1, et_mt 368 (by decide +kernel) rfl, tyX1_ok, nmX1, rfl, rfl⟩
theorem fl_369 : et_FL RX0 107 1 3 (.array .int) true := ⟨RX1, TX1, 6, tyX1, rfl, by decide, iw_1, et_mt 369 (by decide +kernel) rfl, tyX1_ok, nmX1, rfl, rfl⟩
theorem fl_370 : et_FL RX9 256 1 3 (.array .int) true := ⟨RX1, TX1, 6, tyX1, rfl, by decide, iw_1, et_mt 370 (by decide +kernel) rfl, tyX1_ok, nmX1, rfl, rfl⟩
theorem fl_371 : et_FL RX1 21 1 4 (.array .int) true := ⟨RX1, TX1, 6, tyX1, rfl, by decide, iw_1, et_mt 371 (by decide +kernel) rfl, tyX1_ok, nmX1, rfl, rfl⟩
theorem fl_372 : et_FL RX2 59 1 4 (.array .int) true := ⟨RX1, TX1, 6, tyX1, rfl, by decide, iw_1, et_mt 372 (by decide +kernel) rfl, tyX1_ok, nmX1, rfl, rfl⟩
theorem fl_373 : et_FL RX0 121 1 4 (.array .int) true := ⟨RX1, TX1, 6, tyX1, rfl, by decide, iw_1, et_mt 373 (by decide +kernel) rfl, tyX1_ok, nmX1, rfl, rfl⟩
theorem fl_374 : et_FL RX9 258 1 4 (.array .int) true := ⟨RX1, TX1, 6, tyX1, rfl, by decide, iw_1, et_mt 374 (by decide +kernel) rfl, tyX1_ok, nmX1, rfl, rfl⟩
theorem fl_375 : et_FL RX1 24 1 5 (.array .boolean) true := ⟨RX1, TX1, 6, tyX1, rfl, by decide, iw_1, et_mt 375 (by decide +kernel) rfl, tyX1_ok, nmX1, rfl, rfl⟩
theorem fl_376 : et_FL RX0 110 1 5 (.array .boolean) true := ⟨RX1, TX1, 6, tyX1, rfl, by decide, iw_1, et_mt 376 (by decide +kernel) rfl, tyX1_ok, nmX1, rfl, rfl⟩
theorem fl_377 : et_FL RX9 260 1 5 (.array .boolean) true := ⟨RX1, TX1, 6, tyX1, rfl, by decide, iw_1, et_mt 377 (by decide +kernel) rfl, tyX1_ok, nmX1, rfl, rfl⟩
theorem fl_398 : et_FL RX3 9 3 0 (.object "EndingTown$Town") true := ⟨RX3, TX3, 3, tyX3, rfl, by decide, iw_3, et_mt 398 (by decide +kernel) rfl, tyX3_ok, nmX3, rfl, rfl⟩
theorem fl_399 : et_FL RX3 15 3 1 (.int) false := ⟨RX3, TX3, 3, tyX3, rfl, by decide, iw_3, et_mt 399 (by decide +kernel) rfl, tyX3_ok, nmX3, rfl, rfl⟩
theorem fl_400 : et_FL RX3 19 3 2 (.int) false := ⟨RX3, TX3, 3, tyX3, rfl, by decide, iw_3, et_mt 400 (by decide +kernel) rfl, tyX3_ok, nmX3, rfl, rfl⟩
theorem fl_401 : et_FL RX9 158 3 2 (.int) false := ⟨RX3, TX3, 3, tyX3, rfl, by decide, iw_3, et_mt 401 (by decide +kernel) rfl, tyX3_ok, nmX3, rfl, rfl⟩
theorem fl_415 : et_FL RX0 42 0 0 (.object "EndingTown$Town") true := ⟨RX0, TX0, 17, tyX0, rfl, by decide, iw_0, et_mt 415 (by decide +kernel) rfl, tyX0_ok, nmX0, rfl, rfl⟩
theorem fl_416 : et_FL RX0 46 0 1 (.object "EndingTown$Ledger") true := ⟨RX0, TX0, 17, tyX0, rfl, by decide, iw_0, et_mt 416 (by decide +kernel) rfl, tyX0_ok, nmX0, rfl, rfl⟩
theorem fl_417 : et_FL RX0 11 0 2 (.array .int) true := ⟨RX0, TX0, 17, tyX0, rfl, by decide, iw_0, et_mt 417 (by decide +kernel) rfl, tyX0_ok, nmX0, rfl, rfl⟩
theorem fl_418 : et_FL RX0 15 0 3 (.array .int) true := ⟨RX0, TX0, 17, tyX0, rfl, by decide, iw_0, et_mt 418 (by decide +kernel) rfl, tyX0_ok, nmX0, rfl, rfl⟩
theorem fl_419 : et_FL RX0 18 0 4 (.array .int) true := ⟨RX0, TX0, 17, tyX0, rfl, by decide, iw_0, et_mt 419 (by decide +kernel) rfl, tyX0_ok, nmX0, rfl, rfl⟩
theorem fl_420 : et_FL RX0 21 0 5 (.array .int) true := ⟨RX0, TX0, 17, tyX0, rfl, by decide, iw_0, et_mt 420 (by decide +kernel) rfl, tyX0_ok, nmX0, rfl, rfl⟩
theorem fl_421 : et_FL RX0 24 0 6 (.array .int) true := ⟨RX0, TX0, 17, tyX0, rfl, by decide, iw_0, et_mt 421 (by decide +kernel) rfl, tyX0_ok, nmX0, rfl, rfl⟩
theorem fl_422 : et_FL RX0 27 0 7 (.array .int) true := ⟨RX0, TX0, 17, tyX0, rfl, by decide, iw_0, et_mt 422 (by decide +kernel) rfl, tyX0_ok, nmX0, rfl, rfl⟩
theorem fl_423 : et_FL RX0 30 0 8 (.array .int) true := ⟨RX0, TX0, 17, tyX0, rfl, by decide, iw_0, et_mt 423 (by decide +kernel) rfl, tyX0_ok, nmX0, rfl, rfl⟩
theorem fl_424 : et_FL RX0 33 0 9 (.array .int) true := ⟨RX0, TX0, 17, tyX0, rfl, by decide, iw_0, et_mt 424 (by decide +kernel) rfl, tyX0_ok, nmX0, rfl, rfl⟩
theorem fl_425 : et_FL RX2 65 0 9 (.array .int) true := ⟨RX0, TX0, 17, tyX0, rfl, by decide, iw_0, et_mt 425 (by decide +kernel) rfl, tyX0_ok, nmX0, rfl, rfl⟩
theorem fl_426 : et_FL RX0 36 0 10 (.array .int) true := ⟨RX0, TX0, 17, tyX0, rfl, by decide, iw_0, et_mt 426 (by decide +kernel) rfl, tyX0_ok, nmX0, rfl, rfl⟩
theorem fl_427 : et_FL RX0 39 0 11 (.array .int) true := ⟨RX0, TX0, 17, tyX0, rfl, by decide, iw_0, et_mt 427 (by decide +kernel) rfl, tyX0_ok, nmX0, rfl, rfl⟩
theorem fl_428 : et_FL RX0 86 0 12 (.int) false := ⟨RX0, TX0, 17, tyX0, rfl, by decide, iw_0, et_mt 428 (by decide +kernel) rfl, tyX0_ok, nmX0, rfl, rfl⟩
theorem fl_429 : et_FL RX2 62 0 13 (.int) false := ⟨RX0, TX0, 17, tyX0, rfl, by decide, iw_0, et_mt 429 (by decide +kernel) rfl, tyX0_ok, nmX0, rfl, rfl⟩
theorem fl_430 : et_FL RX0 76 0 13 (.int) false := ⟨RX0, TX0, 17, tyX0, rfl, by decide, iw_0, et_mt 430 (by decide +kernel) rfl, tyX0_ok, nmX0, rfl, rfl⟩
theorem fl_431 : et_FL RX2 77 0 14 (.int) false := ⟨RX0, TX0, 17, tyX0, rfl, by decide, iw_0, et_mt 431 (by decide +kernel) rfl, tyX0_ok, nmX0, rfl, rfl⟩
theorem fl_432 : et_FL RX0 128 0 14 (.int) false := ⟨RX0, TX0, 17, tyX0, rfl, by decide, iw_0, et_mt 432 (by decide +kernel) rfl, tyX0_ok, nmX0, rfl, rfl⟩
theorem fl_433 : et_FL RX0 50 0 15 (.boolean) false := ⟨RX0, TX0, 17, tyX0, rfl, by decide, iw_0, et_mt 433 (by decide +kernel) rfl, tyX0_ok, nmX0, rfl, rfl⟩
theorem fl_434 : et_FL RX0 67 0 16 (.boolean) false := ⟨RX0, TX0, 17, tyX0, rfl, by decide, iw_0, et_mt 434 (by decide +kernel) rfl, tyX0_ok, nmX0, rfl, rfl⟩
theorem fl_476 : et_FL RX2 19 2 0 (.object "EndingTown$Ground") true := ⟨RX2, TX2, 4, tyX2, rfl, by decide, iw_2, et_mt 476 (by decide +kernel) rfl, tyX2_ok, nmX2, rfl, rfl⟩
theorem fl_477 : et_FL RX2 23 2 1 (.object "EndingTown$Ledger") true := ⟨RX2, TX2, 4, tyX2, rfl, by decide, iw_2, et_mt 477 (by decide +kernel) rfl, tyX2_ok, nmX2, rfl, rfl⟩
theorem fl_478 : et_FL RX2 9 2 2 (.array .int) true := ⟨RX2, TX2, 4, tyX2, rfl, by decide, iw_2, et_mt 478 (by decide +kernel) rfl, tyX2_ok, nmX2, rfl, rfl⟩
theorem fl_479 : et_FL RX9 284 2 2 (.array .int) true := ⟨RX2, TX2, 4, tyX2, rfl, by decide, iw_2, et_mt 479 (by decide +kernel) rfl, tyX2_ok, nmX2, rfl, rfl⟩
theorem fl_480 : et_FL RX2 15 2 3 (.int) false := ⟨RX2, TX2, 4, tyX2, rfl, by decide, iw_2, et_mt 480 (by decide +kernel) rfl, tyX2_ok, nmX2, rfl, rfl⟩
theorem fl_481 : et_FL RX9 283 2 3 (.int) false := ⟨RX2, TX2, 4, tyX2, rfl, by decide, iw_2, et_mt 481 (by decide +kernel) rfl, tyX2_ok, nmX2, rfl, rfl⟩
theorem fl_491 : et_FL RX9 9 9 0 (.array .byte) true := ⟨RX9, TX9, 18, tyX9, rfl, by decide, iw_9, et_mt 491 (by decide +kernel) rfl, tyX9_ok, nmX9, rfl, rfl⟩
theorem fl_492 : et_FL RX9 90 9 1 (.int) false := ⟨RX9, TX9, 18, tyX9, rfl, by decide, iw_9, et_mt 492 (by decide +kernel) rfl, tyX9_ok, nmX9, rfl, rfl⟩
theorem fl_493 : et_FL RX9 16 9 2 (.object "EndingTown$Town") true := ⟨RX9, TX9, 18, tyX9, rfl, by decide, iw_9, et_mt 493 (by decide +kernel) rfl, tyX9_ok, nmX9, rfl, rfl⟩
theorem fl_494 : et_FL RX9 20 9 3 (.object "EndingTown$Town") true := ⟨RX9, TX9, 18, tyX9, rfl, by decide, iw_9, et_mt 494 (by decide +kernel) rfl, tyX9_ok, nmX9, rfl, rfl⟩
theorem fl_495 : et_FL RX9 28 9 4 (.object "EndingTown$Reader") true := ⟨RX9, TX9, 18, tyX9, rfl, by decide, iw_9, et_mt 495 (by decide +kernel) rfl, tyX9_ok, nmX9, rfl, rfl⟩
theorem fl_496 : et_FL RX9 35 9 5 (.object "EndingTown$Ways") true := ⟨RX9, TX9, 18, tyX9, rfl, by decide, iw_9, et_mt 496 (by decide +kernel) rfl, tyX9_ok, nmX9, rfl, rfl⟩
theorem fl_497 : et_FL RX9 42 9 6 (.object "EndingTown$Utterance") true := ⟨RX9, TX9, 18, tyX9, rfl, by decide, iw_9, et_mt 497 (by decide +kernel) rfl, tyX9_ok, nmX9, rfl, rfl⟩
theorem fl_498 : et_FL RX9 49 9 7 (.object "EndingTown$Ledger") true := ⟨RX9, TX9, 18, tyX9, rfl, by decide, iw_9, et_mt 498 (by decide +kernel) rfl, tyX9_ok, nmX9, rfl, rfl⟩
theorem fl_499 : et_FL RX9 53 9 8 (.object "EndingTown$Ledger") true := ⟨RX9, TX9, 18, tyX9, rfl, by decide, iw_9, et_mt 499 (by decide +kernel) rfl, tyX9_ok, nmX9, rfl, rfl⟩
theorem fl_500 : et_FL RX9 61 9 9 (.object "EndingTown$Minds") true := ⟨RX9, TX9, 18, tyX9, rfl, by decide, iw_9, et_mt 500 (by decide +kernel) rfl, tyX9_ok, nmX9, rfl, rfl⟩
theorem fl_501 : et_FL RX9 65 9 10 (.object "EndingTown$Minds") true := ⟨RX9, TX9, 18, tyX9, rfl, by decide, iw_9, et_mt 501 (by decide +kernel) rfl, tyX9_ok, nmX9, rfl, rfl⟩
theorem fl_502 : et_FL RX9 118 9 11 (.boolean) false := ⟨RX9, TX9, 18, tyX9, rfl, by decide, iw_9, et_mt 502 (by decide +kernel) rfl, tyX9_ok, nmX9, rfl, rfl⟩
theorem fl_503 : et_FL RX9 73 9 12 (.object "EndingTown$Ground") true := ⟨RX9, TX9, 18, tyX9, rfl, by decide, iw_9, et_mt 503 (by decide +kernel) rfl, tyX9_ok, nmX9, rfl, rfl⟩
theorem fl_504 : et_FL RX9 82 9 13 (.object "EndingTown$Mender") true := ⟨RX9, TX9, 18, tyX9, rfl, by decide, iw_9, et_mt 504 (by decide +kernel) rfl, tyX9_ok, nmX9, rfl, rfl⟩
theorem fl_505 : et_FL RX9 86 9 14 (.int) false := ⟨RX9, TX9, 18, tyX9, rfl, by decide, iw_9, et_mt 505 (by decide +kernel) rfl, tyX9_ok, nmX9, rfl, rfl⟩
theorem fl_506 : et_FL RX9 105 9 15 (.int) false := ⟨RX9, TX9, 18, tyX9, rfl, by decide, iw_9, et_mt 506 (by decide +kernel) rfl, tyX9_ok, nmX9, rfl, rfl⟩
theorem fl_507 : et_FL RX9 152 9 16 (.int) false := ⟨RX9, TX9, 18, tyX9, rfl, by decide, iw_9, et_mt 507 (by decide +kernel) rfl, tyX9_ok, nmX9, rfl, rfl⟩
theorem fl_508 : et_FL RX9 155 9 17 (.int) false := ⟨RX9, TX9, 18, tyX9, rfl, by decide, iw_9, et_mt 508 (by decide +kernel) rfl, tyX9_ok, nmX9, rfl, rfl⟩
theorem tm_550 : Cond.methodLink RX9 93 yX9_putBytes ∈ et_tb := et_mt 550 (by decide +kernel) rfl
theorem tm_562 : Cond.methodLink RX9 122 yX0_forget ∈ et_tb := et_mt 562 (by decide +kernel) rfl
theorem tm_570 : Cond.methodLink RX9 280 yX2_keepFewest ∈ et_tb := et_mt 570 (by decide +kernel) rfl
theorem tm_574 : Cond.methodLink RX2 27 yX0_lay ∈ et_tb := et_mt 574 (by decide +kernel) rfl
theorem tm_578 : Cond.methodLink RX0 80 yJ7_fill_53178 ∈ et_tb := et_mt 578 (by decide +kernel) rfl
theorem tm_581 : Cond.methodLink RX0 98 yX0_heardBy ∈ et_tb := et_mt 581 (by decide +kernel) rfl
theorem tm_585 : Cond.methodLink RX0 124 yX1_isHeardBy ∈ et_tb := et_mt 585 (by decide +kernel) rfl
theorem tm_589 : Cond.methodLink RX1 38 yX6_placeAt ∈ et_tb := et_mt 589 (by decide +kernel) rfl
theorem tm_593 : Cond.methodLink RX0 102 yX6_ownThings ∈ et_tb := et_mt 593 (by decide +kernel) rfl
theorem tm_597 : Cond.methodLink RX6 95 yX6_ownHows ∈ et_tb := et_mt 597 (by decide +kernel) rfl
theorem tm_601 : Cond.methodLink RX6 89 yX6_wasThere ∈ et_tb := et_mt 601 (by decide +kernel) rfl
theorem tm_605 : Cond.methodLink RX6 85 yX6_placeAt ∈ et_tb := et_mt 605 (by decide +kernel) rfl
theorem nl_606 : Cond.methodLinkNest RX6 81 yX9_hasBit "EndingTown" ∈ lw_tbl := List.mem_of_getElem? (i := 606) (by decide +kernel)
theorem tm_609 : Cond.methodLink RX6 92 yX6_isNear ∈ et_tb := et_mt 609 (by decide +kernel) rfl
theorem tm_613 : Cond.methodLink RX0 114 yX6_ownHows ∈ et_tb := et_mt 613 (by decide +kernel) rfl
theorem tm_614 : Cond.methodLink RX0 117 yX0_aboutRow ∈ et_tb := et_mt 614 (by decide +kernel) rfl
theorem tm_617 : Cond.methodLink RX2 32 yX0_forget ∈ et_tb := et_mt 617 (by decide +kernel) rfl
theorem tm_618 : Cond.methodLink RX2 35 yX2_fewest ∈ et_tb := et_mt 618 (by decide +kernel) rfl
theorem tm_622 : Cond.methodLink RX2 39 yX1_every ∈ et_tb := et_mt 622 (by decide +kernel) rfl
theorem tm_626 : Cond.methodLink RX2 44 yX0_rise ∈ et_tb := et_mt 626 (by decide +kernel) rfl
theorem tm_630 : Cond.methodLink RX0 131 yX0_rising ∈ et_tb := et_mt 630 (by decide +kernel) rfl
theorem nl_634 : Cond.methodLinkNest RX0 139 yX9_hasBit "EndingTown" ∈ lw_tbl := List.mem_of_getElem? (i := 634) (by decide +kernel)
theorem tm_635 : Cond.methodLink RX0 142 yX0_standingHows ∈ et_tb := et_mt 635 (by decide +kernel) rfl
theorem tm_639 : Cond.methodLink RX0 149 yX6_isWorkedOut ∈ et_tb := et_mt 639 (by decide +kernel) rfl
theorem tm_643 : Cond.methodLink RX6 99 yX6_follows ∈ et_tb := et_mt 643 (by decide +kernel) rfl
theorem tm_647 : Cond.methodLink RX0 145 yX0_firstBit ∈ et_tb := et_mt 647 (by decide +kernel) rfl
theorem tm_650 : Cond.methodLink RX0 135 yX0_widenAll ∈ et_tb := et_mt 650 (by decide +kernel) rfl
theorem tm_654 : Cond.methodLink RX0 152 yX0_widened ∈ et_tb := et_mt 654 (by decide +kernel) rfl
theorem tm_658 : Cond.methodLink RX0 155 yX6_followers ∈ et_tb := et_mt 658 (by decide +kernel) rfl
theorem tm_662 : Cond.methodLink RX2 74 yX0_standing ∈ et_tb := et_mt 662 (by decide +kernel) rfl
theorem tm_666 : Cond.methodLink RX0 161 yX0_widest ∈ et_tb := et_mt 666 (by decide +kernel) rfl
theorem tm_670 : Cond.methodLink RX2 68 yJ6_bitCount_0f7a4 ∈ et_tb := et_mt 670 (by decide +kernel) rfl
theorem tm_673 : Cond.constant RJ6 265 (1431655765) ∈ et_tb := et_mt 673 (by decide +kernel) rfl
theorem tm_674 : Cond.constant RJ6 266 (858993459) ∈ et_tb := et_mt 674 (by decide +kernel) rfl
theorem tm_675 : Cond.constant RJ6 267 (252645135) ∈ et_tb := et_mt 675 (by decide +kernel) rfl
theorem tm_676 : Cond.methodLink RX2 49 Lib.Math.min.name ∈ et_tb := et_mt 676 (by decide +kernel) rfl
theorem nl_679 : Cond.methodLinkNest RX2 55 yX9_hasBit "EndingTown" ∈ lw_tbl := List.mem_of_getElem? (i := 679) (by decide +kernel)
theorem tm_684 : Cond.methodLink RX9 313 yX1_copyFrom ∈ et_tb := et_mt 684 (by decide +kernel) rfl
theorem tm_688 : Cond.methodLink RX1 32 arraycopyName ∈ et_tb := et_mt 688 (by decide +kernel) rfl
theorem tm_691 : Cond.methodLink RX9 316 yX3_copyFrom ∈ et_tb := et_mt 691 (by decide +kernel) rfl
theorem tm_707 : Cond.methodLink RX9 97 yX9_takeTape ∈ et_tb := et_mt 707 (by decide +kernel) rfl
theorem tm_773 : Cond.methodLink RX9 100 yX4_read ∈ et_tb := et_mt 773 (by decide +kernel) rfl
theorem tm_777 : Cond.methodLink RX4 19 Lib.Math.min.name ∈ et_tb := et_mt 777 (by decide +kernel) rfl
theorem tm_778 : Cond.methodLink RX4 41 yX6_clear ∈ et_tb := et_mt 778 (by decide +kernel) rfl
theorem tm_782 : Cond.methodLink RX6 47 yX5_clear ∈ et_tb := et_mt 782 (by decide +kernel) rfl
theorem tm_786 : Cond.methodLink RX5 22 yJ7_fill_53178 ∈ et_tb := et_mt 786 (by decide +kernel) rfl
theorem tm_787 : Cond.methodLink RX6 65 yJ7_fill_53178 ∈ et_tb := et_mt 787 (by decide +kernel) rfl
theorem tm_788 : Cond.methodLink RX4 46 yX4_step ∈ et_tb := et_mt 788 (by decide +kernel) rfl
theorem nl_792 : Cond.methodLinkNest RX4 62 yX9_isBlank "EndingTown" ∈ lw_tbl := List.mem_of_getElem? (i := 792) (by decide +kernel)
theorem nl_795 : Cond.methodLinkNest RX4 69 yX9_isLetter "EndingTown" ∈ lw_tbl := List.mem_of_getElem? (i := 795) (by decide +kernel)
theorem nl_798 : Cond.methodLinkNest RX4 72 yX9_isDigit "EndingTown" ∈ lw_tbl := List.mem_of_getElem? (i := 798) (by decide +kernel)
theorem tm_801 : Cond.methodLink RX4 75 yX4_takeDigits ∈ et_tb := et_mt 801 (by decide +kernel) rfl
theorem tm_805 : Cond.methodLink RX4 52 yX4_readLine ∈ et_tb := et_mt 805 (by decide +kernel) rfl
theorem tm_810 : Cond.methodLink RX4 92 yX4_is ∈ et_tb := et_mt 810 (by decide +kernel) rfl
theorem tm_862 : Cond.methodLink RX4 100 yX4_stemLine ∈ et_tb := et_mt 862 (by decide +kernel) rfl
theorem tm_866 : Cond.methodLink RX4 153 yX4_refuse ∈ et_tb := et_mt 866 (by decide +kernel) rfl
theorem tm_870 : Cond.methodLink RX4 173 yX4_letters ∈ et_tb := et_mt 870 (by decide +kernel) rfl
theorem tm_874 : Cond.methodLink RX4 157 yX5_put ∈ et_tb := et_mt 874 (by decide +kernel) rfl
theorem tm_878 : Cond.methodLink RX5 35 arraycopyName ∈ et_tb := et_mt 878 (by decide +kernel) rfl
theorem tm_879 : Cond.methodLink RX4 177 yX4_semicolon ∈ et_tb := et_mt 879 (by decide +kernel) rfl
theorem tm_883 : Cond.methodLink RX4 166 yX4_isSemicolon ∈ et_tb := et_mt 883 (by decide +kernel) rfl
theorem tm_888 : Cond.methodLink RX4 106 yX4_endingLine ∈ et_tb := et_mt 888 (by decide +kernel) rfl
theorem tm_892 : Cond.methodLink RX4 180 yX4_number ∈ et_tb := et_mt 892 (by decide +kernel) rfl
theorem tm_896 : Cond.methodLink RX4 163 yX4_isNumber ∈ et_tb := et_mt 896 (by decide +kernel) rfl
theorem tm_900 : Cond.methodLink RX4 183 yX5_hasEnding ∈ et_tb := et_mt 900 (by decide +kernel) rfl
theorem tm_904 : Cond.methodLink RX5 41 yX5_endingSlot ∈ et_tb := et_mt 904 (by decide +kernel) rfl
theorem tm_907 : Cond.methodLink RX4 187 yX5_endingSlot ∈ et_tb := et_mt 907 (by decide +kernel) rfl
theorem tm_909 : Cond.methodLink RX4 111 yX4_changeLine ∈ et_tb := et_mt 909 (by decide +kernel) rfl
theorem tm_913 : Cond.methodLink RX4 193 yX5_changeSlot ∈ et_tb := et_mt 913 (by decide +kernel) rfl
theorem tm_917 : Cond.methodLink RX4 116 yX4_notLine ∈ et_tb := et_mt 917 (by decide +kernel) rfl
theorem tm_921 : Cond.methodLink RX4 196 yX5_hasNot ∈ et_tb := et_mt 921 (by decide +kernel) rfl
theorem tm_926 : Cond.methodLink RX4 121 yX4_placesLine ∈ et_tb := et_mt 926 (by decide +kernel) rfl
theorem tm_931 : Cond.methodLink RX4 126 yX4_nearLine ∈ et_tb := et_mt 931 (by decide +kernel) rfl
theorem tm_935 : Cond.methodLink RX4 201 yX4_oneOf ∈ et_tb := et_mt 935 (by decide +kernel) rfl
theorem tm_940 : Cond.methodLink RX4 131 yX4_personLine ∈ et_tb := et_mt 940 (by decide +kernel) rfl
theorem tm_945 : Cond.methodLink RX4 136 yX4_thingLine ∈ et_tb := et_mt 945 (by decide +kernel) rfl
theorem tm_949 : Cond.methodLink RX4 213 yX6_thingOfStem ∈ et_tb := et_mt 949 (by decide +kernel) rfl
theorem tm_953 : Cond.methodLink RX4 226 yX4_thingSigns ∈ et_tb := et_mt 953 (by decide +kernel) rfl
theorem tm_960 : Cond.methodLink RX4 141 yX4_ruleLine ∈ et_tb := et_mt 960 (by decide +kernel) rfl
theorem tm_964 : Cond.methodLink RX4 247 yX4_ruleGround ∈ et_tb := et_mt 964 (by decide +kernel) rfl
theorem nl_968 : Cond.methodLinkNest RX4 251 yX9_hasBit "EndingTown" ∈ lw_tbl := List.mem_of_getElem? (i := 968) (by decide +kernel)
theorem tm_970 : Cond.methodLink RX4 145 yX4_atLine ∈ et_tb := et_mt 970 (by decide +kernel) rfl
theorem tm_975 : Cond.methodLink RX4 150 yX4_weighLine ∈ et_tb := et_mt 975 (by decide +kernel) rfl
theorem tm_979 : Cond.methodLink RX4 56 yX6_fillHours ∈ et_tb := et_mt 979 (by decide +kernel) rfl
theorem tm_983 : Cond.methodLink RX9 108 yX6_copyFrom ∈ et_tb := et_mt 983 (by decide +kernel) rfl
theorem tm_987 : Cond.methodLink RX6 71 yX5_copyFrom ∈ et_tb := et_mt 987 (by decide +kernel) rfl
theorem tm_991 : Cond.methodLink RX6 75 arraycopyName ∈ et_tb := et_mt 991 (by decide +kernel) rfl
theorem tm_992 : Cond.methodLink RX9 114 yX3_clear ∈ et_tb := et_mt 992 (by decide +kernel) rfl
theorem tm_996 : Cond.methodLink RX9 117 yX2_clear ∈ et_tb := et_mt 996 (by decide +kernel) rfl
theorem tm_1008 : Cond.methodLink RX9 161 yJ6_bitCount_0f7a4 ∈ et_tb := et_mt 1008 (by decide +kernel) rfl
theorem tm_1031 : Cond.methodLink RX9 170 yX9_needPerson ∈ et_tb := et_mt 1031 (by decide +kernel) rfl
theorem tm_1035 : Cond.methodLink RX9 180 yX6_hasPerson ∈ et_tb := et_mt 1035 (by decide +kernel) rfl
theorem tm_1039 : Cond.methodLink RX9 173 yX9_needHour ∈ et_tb := et_mt 1039 (by decide +kernel) rfl
theorem tm_1043 : Cond.methodLink RX9 184 yX6_isHour ∈ et_tb := et_mt 1043 (by decide +kernel) rfl
theorem tm_1046 : Cond.methodLink RX9 176 yX6_placeAt ∈ et_tb := et_mt 1046 (by decide +kernel) rfl
theorem tm_1054 : Cond.methodLink RX9 190 yX9_needThing ∈ et_tb := et_mt 1054 (by decide +kernel) rfl
theorem tm_1058 : Cond.methodLink RX9 187 yX6_hasThing ∈ et_tb := et_mt 1058 (by decide +kernel) rfl
theorem tm_1062 : Cond.methodLink RX9 206 yX9_hasBit ∈ et_tb := et_mt 1062 (by decide +kernel) rfl
theorem tm_1070 : Cond.methodLink RX9 213 yX5_hasStem ∈ et_tb := et_mt 1070 (by decide +kernel) rfl
theorem tm_1074 : Cond.methodLink RX9 216 yX5_make ∈ et_tb := et_mt 1074 (by decide +kernel) rfl
theorem tm_1078 : Cond.methodLink RX5 59 yX5_firstChange ∈ et_tb := et_mt 1078 (by decide +kernel) rfl
theorem tm_1082 : Cond.methodLink RX5 49 yX5_changeSlot ∈ et_tb := et_mt 1082 (by decide +kernel) rfl
theorem tm_1083 : Cond.methodLink RX5 52 yX5_standsAt ∈ et_tb := et_mt 1083 (by decide +kernel) rfl
theorem nl_1087 : Cond.methodLinkNest RX5 45 yX9_areSame "EndingTown" ∈ lw_tbl := List.mem_of_getElem? (i := 1087) (by decide +kernel)
theorem tm_1090 : Cond.methodLink RX5 62 yX5_add ∈ et_tb := et_mt 1090 (by decide +kernel) rfl
theorem tm_1101 : Cond.methodLink RX9 223 yX8_find ∈ et_tb := et_mt 1101 (by decide +kernel) rfl
theorem tm_1105 : Cond.methodLink RX8 24 yX5_make ∈ et_tb := et_mt 1105 (by decide +kernel) rfl
theorem tm_1106 : Cond.methodLink RX8 28 yX5_isMade ∈ et_tb := et_mt 1106 (by decide +kernel) rfl
theorem tm_1110 : Cond.methodLink RX8 32 yX8_keep ∈ et_tb := et_mt 1110 (by decide +kernel) rfl
theorem tm_1128 : Cond.methodLink RX9 233 yX1_add ∈ et_tb := et_mt 1128 (by decide +kernel) rfl
theorem tm_1139 : Cond.methodLink RX9 237 yX7_isClear ∈ et_tb := et_mt 1139 (by decide +kernel) rfl
theorem tm_1143 : Cond.methodLink RX7 26 Lib.Math.min.name ∈ et_tb := et_mt 1143 (by decide +kernel) rfl
theorem tm_1144 : Cond.methodLink RX7 39 yX7_skipBlanks ∈ et_tb := et_mt 1144 (by decide +kernel) rfl
theorem nl_1148 : Cond.methodLinkNest RX7 83 yX9_isBlank "EndingTown" ∈ lw_tbl := List.mem_of_getElem? (i := 1148) (by decide +kernel)
theorem tm_1149 : Cond.methodLink RX7 42 yX7_takeWord ∈ et_tb := et_mt 1149 (by decide +kernel) rfl
theorem nl_1153 : Cond.methodLinkNest RX7 87 yX9_isLetter "EndingTown" ∈ lw_tbl := List.mem_of_getElem? (i := 1153) (by decide +kernel)
theorem tm_1154 : Cond.methodLink RX7 52 yX5_isNot ∈ et_tb := et_mt 1154 (by decide +kernel) rfl
theorem tm_1158 : Cond.methodLink RX5 66 yX5_hasNot ∈ et_tb := et_mt 1158 (by decide +kernel) rfl
theorem tm_1159 : Cond.methodLink RX7 58 yX8_find ∈ et_tb := et_mt 1159 (by decide +kernel) rfl
theorem tm_1160 : Cond.methodLink RX7 62 yX7_isOneWay ∈ et_tb := et_mt 1160 (by decide +kernel) rfl
theorem tm_1164 : Cond.methodLink RX7 76 yX6_thingOfStem ∈ et_tb := et_mt 1164 (by decide +kernel) rfl
theorem tm_1172 : Cond.methodLink RX9 263 yX0_chainOf ∈ et_tb := et_mt 1172 (by decide +kernel) rfl
theorem tm_1176 : Cond.methodLink RX0 70 yX0_settle ∈ et_tb := et_mt 1176 (by decide +kernel) rfl
theorem tm_1180 : Cond.methodLink RX0 54 yX0_lay ∈ et_tb := et_mt 1180 (by decide +kernel) rfl
theorem tm_1181 : Cond.methodLink RX0 57 yX1_every ∈ et_tb := et_mt 1181 (by decide +kernel) rfl
theorem tm_1182 : Cond.methodLink RX0 63 yX0_rise ∈ et_tb := et_mt 1182 (by decide +kernel) rfl
theorem tm_1183 : Cond.methodLink RX9 266 yX0_eyesOf ∈ et_tb := et_mt 1183 (by decide +kernel) rfl
theorem tm_1187 : Cond.methodLink RX0 73 yX0_openEyes ∈ et_tb := et_mt 1187 (by decide +kernel) rfl
theorem tm_1191 : Cond.methodLink RX0 164 yX0_openThingEyes ∈ et_tb := et_mt 1191 (by decide +kernel) rfl
theorem tm_1195 : Cond.methodLink RX0 174 yX0_ruleEyes ∈ et_tb := et_mt 1195 (by decide +kernel) rfl
theorem tm_1199 : Cond.methodLink RX0 180 yX6_follows ∈ et_tb := et_mt 1199 (by decide +kernel) rfl
theorem tm_1200 : Cond.methodLink RX0 187 yX0_tailEyes ∈ et_tb := et_mt 1200 (by decide +kernel) rfl
theorem tm_1204 : Cond.methodLink RX0 171 yX0_eyesOfAll ∈ et_tb := et_mt 1204 (by decide +kernel) rfl
theorem tm_1208 : Cond.methodLink RX0 168 yX0_eyesNow ∈ et_tb := et_mt 1208 (by decide +kernel) rfl
theorem tm_1219 : Cond.methodLink RX9 269 yX0_howsFor ∈ et_tb := et_mt 1219 (by decide +kernel) rfl
theorem tm_1230 : Cond.methodLink RX9 273 yX0_unheld ∈ et_tb := et_mt 1230 (by decide +kernel) rfl
theorem tm_1234 : Cond.methodLink RX9 277 yX0_rings ∈ et_tb := et_mt 1234 (by decide +kernel) rfl
theorem tm_1238 : Cond.methodLink RX0 190 yX0_standing ∈ et_tb := et_mt 1238 (by decide +kernel) rfl
theorem tm_1253 : Cond.methodLink RX9 287 yX0_fewestSilent ∈ et_tb := et_mt 1253 (by decide +kernel) rfl
theorem tm_1257 : Cond.methodLink RX0 193 yX0_forget ∈ et_tb := et_mt 1257 (by decide +kernel) rfl
theorem tm_1258 : Cond.methodLink RX0 199 yJ6_bitCount_0f7a4 ∈ et_tb := et_mt 1258 (by decide +kernel) rfl
theorem tm_1259 : Cond.methodLink RX0 204 yX0_isTold ∈ et_tb := et_mt 1259 (by decide +kernel) rfl
theorem tm_1270 : Cond.constant RX9 290 (500000) ∈ et_tb := et_mt 1270 (by decide +kernel) rfl
theorem tm_1271 : Cond.methodLink RX9 291 yX1_isHeardBy ∈ et_tb := et_mt 1271 (by decide +kernel) rfl
theorem tm_1272 : Cond.methodLink RX9 295 yX6_weighed ∈ et_tb := et_mt 1272 (by decide +kernel) rfl
theorem tm_1276 : Cond.constant RX6 103 (1000000) ∈ et_tb := et_mt 1276 (by decide +kernel) rfl
theorem tm_1277 : Cond.constantLong RX6 104 (1000000) ∈ et_tb := et_mt 1277 (by decide +kernel) rfl
theorem tm_1285 : Cond.methodLink RX9 299 yX3_open ∈ et_tb := et_mt 1285 (by decide +kernel) rfl
theorem tm_1289 : Cond.methodLink RX3 22 yJ6_bitCount_0f7a4 ∈ et_tb := et_mt 1289 (by decide +kernel) rfl
theorem tm_1297 : Cond.methodLink RX9 302 yX3_hear ∈ et_tb := et_mt 1297 (by decide +kernel) rfl
theorem nl_1301 : Cond.methodLinkNest RX3 34 yX9_hasBit "EndingTown" ∈ lw_tbl := List.mem_of_getElem? (i := 1301) (by decide +kernel)
theorem tm_1302 : Cond.methodLink RX3 51 yX3_worldsWith ∈ et_tb := et_mt 1302 (by decide +kernel) rfl
theorem tm_1306 : Cond.methodLink RX3 38 yX3_slot ∈ et_tb := et_mt 1306 (by decide +kernel) rfl
theorem tm_1310 : Cond.methodLink RX3 55 yX3_knowing ∈ et_tb := et_mt 1310 (by decide +kernel) rfl
theorem tm_1314 : Cond.methodLink RX3 44 yX3_distinguished ∈ et_tb := et_mt 1314 (by decide +kernel) rfl
theorem tm_1318 : Cond.methodLink RX3 41 yX6_wasThere ∈ et_tb := et_mt 1318 (by decide +kernel) rfl
theorem tm_1319 : Cond.methodLink RX3 47 yX3_alike ∈ et_tb := et_mt 1319 (by decide +kernel) rfl
theorem tm_1323 : Cond.methodLink RX3 58 yX3_realWorld ∈ et_tb := et_mt 1323 (by decide +kernel) rfl
theorem tm_1334 : Cond.methodLink RX9 306 yX3_figure ∈ et_tb := et_mt 1334 (by decide +kernel) rfl
theorem tm_1337 : Cond.methodLink RX9 309 yX3_isKnown ∈ et_tb := et_mt 1337 (by decide +kernel) rfl
theorem tm_1341 : Cond.methodLink RX3 62 yX3_figure ∈ et_tb := et_mt 1341 (by decide +kernel) rfl
theorem tm_1579 : Cond.methodLink RX10 128 yX10_lays ∈ et_tb := et_mt 1579 (by decide +kernel) rfl
theorem tm_1587 : Cond.methodLink RX10 250 yX10_right ∈ et_tb := et_mt 1587 (by decide +kernel) rfl
theorem tm_1591 : Cond.methodLink RX10 254 yX10_empties ∈ et_tb := et_mt 1591 (by decide +kernel) rfl
theorem tm_1595 : Cond.methodLink RX10 180 yX10_steps ∈ et_tb := et_mt 1595 (by decide +kernel) rfl
theorem tm_1599 : Cond.methodLink RX10 138 yX10_byteAt ∈ et_tb := et_mt 1599 (by decide +kernel) rfl
theorem tm_1603 : Cond.methodLink RX10 155 yX10_isLetter ∈ et_tb := et_mt 1603 (by decide +kernel) rfl
theorem tm_1606 : Cond.methodLink RX10 159 yX10_isDigit ∈ et_tb := et_mt 1606 (by decide +kernel) rfl
theorem tm_1609 : Cond.methodLink RX10 176 yX10_isGood ∈ et_tb := et_mt 1609 (by decide +kernel) rfl
theorem tm_1613 : Cond.methodLink RX10 257 yX10_line ∈ et_tb := et_mt 1613 (by decide +kernel) rfl
theorem tm_1617 : Cond.methodLink RX10 213 yX10_is ∈ et_tb := et_mt 1617 (by decide +kernel) rfl
theorem tm_1621 : Cond.methodLink RX10 169 yX10_letters ∈ et_tb := et_mt 1621 (by decide +kernel) rfl
theorem tm_1624 : Cond.methodLink RX10 165 yX10_spelled ∈ et_tb := et_mt 1624 (by decide +kernel) rfl
theorem tm_1627 : Cond.methodLink RX10 183 yX10_faults ∈ et_tb := et_mt 1627 (by decide +kernel) rfl
theorem tm_1631 : Cond.methodLink RX10 193 yX10_word0 ∈ et_tb := et_mt 1631 (by decide +kernel) rfl
theorem tm_1635 : Cond.methodLink RX10 222 yX10_readsEnding ∈ et_tb := et_mt 1635 (by decide +kernel) rfl
theorem tm_1639 : Cond.methodLink RX10 189 yX10_number ∈ et_tb := et_mt 1639 (by decide +kernel) rfl
theorem tm_1643 : Cond.methodLink RX10 234 yX10_readsNear ∈ et_tb := et_mt 1643 (by decide +kernel) rfl
theorem tm_1647 : Cond.methodLink RX10 204 yX10_among ∈ et_tb := et_mt 1647 (by decide +kernel) rfl
theorem tm_1651 : Cond.methodLink RX10 186 yX10_amongHere ∈ et_tb := et_mt 1651 (by decide +kernel) rfl
theorem tm_1655 : Cond.methodLink RX10 237 yX10_readsThing ∈ et_tb := et_mt 1655 (by decide +kernel) rfl
theorem tm_1659 : Cond.methodLink RX10 240 yX10_readsRule ∈ et_tb := et_mt 1659 (by decide +kernel) rfl
theorem tm_1663 : Cond.methodLink RX10 243 yX10_readsAt ∈ et_tb := et_mt 1663 (by decide +kernel) rfl
theorem tm_1667 : Cond.methodLink RX10 246 yX10_need ∈ et_tb := et_mt 1667 (by decide +kernel) rfl
theorem tm_1671 : Cond.methodLink RX10 275 yX10_copies ∈ et_tb := et_mt 1671 (by decide +kernel) rfl
theorem tm_1683 : Cond.methodLink RX10 291 yX10_within ∈ et_tb := et_mt 1683 (by decide +kernel) rfl
theorem tm_1686 : Cond.methodLink RX10 295 yX10_bits ∈ et_tb := et_mt 1686 (by decide +kernel) rfl
theorem tm_1693 : Cond.methodLink RX10 298 yX10_isWho ∈ et_tb := et_mt 1693 (by decide +kernel) rfl
theorem tm_1701 : Cond.methodLink RX10 302 yX10_isThing ∈ et_tb := et_mt 1701 (by decide +kernel) rfl
theorem tm_1709 : Cond.methodLink RX10 317 yX10_speaks ∈ et_tb := et_mt 1709 (by decide +kernel) rfl
theorem tm_1713 : Cond.methodLink RX10 308 yX10_ends ∈ et_tb := et_mt 1713 (by decide +kernel) rfl
theorem tm_1717 : Cond.methodLink RX10 311 yX10_begins ∈ et_tb := et_mt 1717 (by decide +kernel) rfl
theorem tm_1721 : Cond.methodLink RX10 314 yX10_adds ∈ et_tb := et_mt 1721 (by decide +kernel) rfl
theorem tm_1729 : Cond.methodLink RX10 324 yX10_finds ∈ et_tb := et_mt 1729 (by decide +kernel) rfl
theorem tm_1741 : Cond.methodLink RX10 327 yX10_refuses ∈ et_tb := et_mt 1741 (by decide +kernel) rfl
theorem tm_1745 : Cond.methodLink RX10 330 yX10_adds5 ∈ et_tb := et_mt 1745 (by decide +kernel) rfl
theorem tm_1753 : Cond.methodLink RX10 334 yX10_blanks ∈ et_tb := et_mt 1753 (by decide +kernel) rfl
theorem tm_1757 : Cond.methodLink RX10 337 yX10_lettersTo ∈ et_tb := et_mt 1757 (by decide +kernel) rfl
theorem tm_1761 : Cond.methodLink RX10 340 yX10_isNot ∈ et_tb := et_mt 1761 (by decide +kernel) rfl
theorem tm_1773 : Cond.methodLink RX10 346 yX10_of ∈ et_tb := et_mt 1773 (by decide +kernel) rfl
theorem tm_1777 : Cond.methodLink RX10 391 yX10_asks ∈ et_tb := et_mt 1777 (by decide +kernel) rfl
theorem tm_1781 : Cond.methodLink RX10 349 yX10_pairAt ∈ et_tb := et_mt 1781 (by decide +kernel) rfl
theorem tm_1785 : Cond.methodLink RX10 394 yX10_all ∈ et_tb := et_mt 1785 (by decide +kernel) rfl
theorem tm_1789 : Cond.methodLink RX10 398 yX10_reckons ∈ et_tb := et_mt 1789 (by decide +kernel) rfl
theorem tm_1793 : Cond.methodLink RX10 378 yX10_least ∈ et_tb := et_mt 1793 (by decide +kernel) rfl
theorem tm_1797 : Cond.methodLink RX10 372 yX10_byHow ∈ et_tb := et_mt 1797 (by decide +kernel) rfl
theorem tm_1801 : Cond.methodLink RX10 362 yX10_byTold ∈ et_tb := et_mt 1801 (by decide +kernel) rfl
theorem tm_1805 : Cond.methodLink RX10 358 yX10_isTold ∈ et_tb := et_mt 1805 (by decide +kernel) rfl
theorem tm_1809 : Cond.methodLink RX10 366 yX10_byRules ∈ et_tb := et_mt 1809 (by decide +kernel) rfl
theorem tm_1813 : Cond.methodLink RX10 369 yX10_isBy ∈ et_tb := et_mt 1813 (by decide +kernel) rfl
theorem tm_1817 : Cond.methodLink RX10 401 yX10_looks ∈ et_tb := et_mt 1817 (by decide +kernel) rfl
theorem tm_1821 : Cond.methodLink RX10 388 yX10_eyesBy ∈ et_tb := et_mt 1821 (by decide +kernel) rfl
theorem tm_1825 : Cond.methodLink RX10 382 yX10_toldEyes ∈ et_tb := et_mt 1825 (by decide +kernel) rfl
theorem tm_1829 : Cond.methodLink RX10 385 yX10_ruleEyes ∈ et_tb := et_mt 1829 (by decide +kernel) rfl
theorem tm_1841 : Cond.methodLink RX10 404 yX10_holding ∈ et_tb := et_mt 1841 (by decide +kernel) rfl
theorem tm_1861 : Cond.constantLong RX10 407 (500000) ∈ et_tb := et_mt 1861 (by decide +kernel) rfl
theorem tm_1862 : Cond.constantLong RX10 409 (1000000) ∈ et_tb := et_mt 1862 (by decide +kernel) rfl
theorem tm_1871 : Cond.methodLink RX10 417 yX10_placeOf ∈ et_tb := et_mt 1871 (by decide +kernel) rfl
theorem tm_1875 : Cond.methodLink RX10 420 yX10_worldsOf ∈ et_tb := et_mt 1875 (by decide +kernel) rfl
theorem tm_1879 : Cond.methodLink RX10 424 yX10_knows ∈ et_tb := et_mt 1879 (by decide +kernel) rfl
theorem tm_1883 : Cond.methodLink RX10 414 yX10_seenBy ∈ et_tb := et_mt 1883 (by decide +kernel) rfl
theorem tm_1887 : Cond.methodLink RX10 411 yX10_low ∈ et_tb := et_mt 1887 (by decide +kernel) rfl
theorem tm_1890 : Cond.methodLink RX10 427 yX10_real ∈ et_tb := et_mt 1890 (by decide +kernel) rfl
theorem md_J6_bitCount_0f7a4 : et_MD yJ6_bitCount_0f7a4 cJ6_bitCount_0f7a4 1 (some .int) 1 := ⟨et_mt 672 (by decide +kernel) rfl, et_mt 134 (by decide +kernel) rfl, ⟨by decide, by decide⟩, fun sig h => by have h2 : (parseMethodDescriptor (yJ6_bitCount_0f7a4).desc).map (fun d => d.parameters.length) = some 1 := (by decide +kernel); rw [h] at h2; exact (Option.some.inj h2).symm⟩
theorem md_J7_fill_53178 : et_MD yJ7_fill_53178 cJ7_fill_53178 4 (none) 2 := ⟨et_mt 580 (by decide +kernel) rfl, et_mt 128 (by decide +kernel) rfl, ⟨by decide, by decide⟩, fun sig h => by have h2 : (parseMethodDescriptor (yJ7_fill_53178).desc).map (fun d => d.parameters.length) = some 2 := (by decide +kernel); rw [h] at h2; exact (Option.some.inj h2).symm⟩
theorem md_X0_aboutRow : et_MD yX0_aboutRow cX0_aboutRow 2 (some .int) 2 := ⟨et_mt 616 (by decide +kernel) rfl, et_mt 120 (by decide +kernel) rfl, ⟨by decide, by decide⟩, fun sig h => by have h2 : (parseMethodDescriptor (yX0_aboutRow).desc).map (fun d => d.parameters.length) = some 2 := (by decide +kernel); rw [h] at h2; exact (Option.some.inj h2).symm⟩
theorem md_X0_chainOf : et_MD yX0_chainOf cX0_chainOf 2 (some .int) 1 := ⟨et_mt 1175 (by decide +kernel) rfl, et_mt 120 (by decide +kernel) rfl, ⟨by decide, by decide⟩, fun sig h => by have h2 : (parseMethodDescriptor (yX0_chainOf).desc).map (fun d => d.parameters.length) = some 1 := (by decide +kernel); rw [h] at h2; exact (Option.some.inj h2).symm⟩
theorem md_X0_eyesNow : et_MD yX0_eyesNow cX0_eyesNow 2 (some .int) 1 := ⟨et_mt 1211 (by decide +kernel) rfl, et_mt 120 (by decide +kernel) rfl, ⟨by decide, by decide⟩, fun sig h => by have h2 : (parseMethodDescriptor (yX0_eyesNow).desc).map (fun d => d.parameters.length) = some 1 := (by decide +kernel); rw [h] at h2; exact (Option.some.inj h2).symm⟩
theorem md_X0_eyesOf : et_MD yX0_eyesOf cX0_eyesOf 2 (some .int) 1 := ⟨et_mt 1186 (by decide +kernel) rfl, et_mt 120 (by decide +kernel) rfl, ⟨by decide, by decide⟩, fun sig h => by have h2 : (parseMethodDescriptor (yX0_eyesOf).desc).map (fun d => d.parameters.length) = some 1 := (by decide +kernel); rw [h] at h2; exact (Option.some.inj h2).symm⟩
theorem md_X0_eyesOfAll : et_MD yX0_eyesOfAll cX0_eyesOfAll 4 (some .int) 1 := ⟨et_mt 1207 (by decide +kernel) rfl, et_mt 120 (by decide +kernel) rfl, ⟨by decide, by decide⟩, fun sig h => by have h2 : (parseMethodDescriptor (yX0_eyesOfAll).desc).map (fun d => d.parameters.length) = some 1 := (by decide +kernel); rw [h] at h2; exact (Option.some.inj h2).symm⟩
theorem md_X0_fewestSilent : et_MD yX0_fewestSilent cX0_fewestSilent 9 (some .int) 2 := ⟨et_mt 1256 (by decide +kernel) rfl, et_mt 120 (by decide +kernel) rfl, ⟨by decide, by decide⟩, fun sig h => by have h2 : (parseMethodDescriptor (yX0_fewestSilent).desc).map (fun d => d.parameters.length) = some 2 := (by decide +kernel); rw [h] at h2; exact (Option.some.inj h2).symm⟩
theorem md_X0_firstBit : et_MD yX0_firstBit cX0_firstBit 2 (some .int) 1 := ⟨et_mt 649 (by decide +kernel) rfl, et_mt 120 (by decide +kernel) rfl, ⟨by decide, by decide⟩, fun sig h => by have h2 : (parseMethodDescriptor (yX0_firstBit).desc).map (fun d => d.parameters.length) = some 1 := (by decide +kernel); rw [h] at h2; exact (Option.some.inj h2).symm⟩
theorem md_X0_forget : et_MD yX0_forget cX0_forget 1 (none) 0 := ⟨et_mt 565 (by decide +kernel) rfl, et_mt 120 (by decide +kernel) rfl, ⟨by decide, by decide⟩, fun sig h => by have h2 : (parseMethodDescriptor (yX0_forget).desc).map (fun d => d.parameters.length) = some 0 := (by decide +kernel); rw [h] at h2; exact (Option.some.inj h2).symm⟩
theorem md_X0_heardBy : et_MD yX0_heardBy cX0_heardBy 5 (some .int) 2 := ⟨et_mt 584 (by decide +kernel) rfl, et_mt 120 (by decide +kernel) rfl, ⟨by decide, by decide⟩, fun sig h => by have h2 : (parseMethodDescriptor (yX0_heardBy).desc).map (fun d => d.parameters.length) = some 2 := (by decide +kernel); rw [h] at h2; exact (Option.some.inj h2).symm⟩
theorem md_X0_howsFor : et_MD yX0_howsFor cX0_howsFor 7 (some .int) 4 := ⟨et_mt 1222 (by decide +kernel) rfl, et_mt 120 (by decide +kernel) rfl, ⟨by decide, by decide⟩, fun sig h => by have h2 : (parseMethodDescriptor (yX0_howsFor).desc).map (fun d => d.parameters.length) = some 4 := (by decide +kernel); rw [h] at h2; exact (Option.some.inj h2).symm⟩
theorem md_X0_isTold : et_MD yX0_isTold cX0_isTold 5 (some .boolean) 2 := ⟨et_mt 1262 (by decide +kernel) rfl, et_mt 120 (by decide +kernel) rfl, ⟨by decide, by decide⟩, fun sig h => by have h2 : (parseMethodDescriptor (yX0_isTold).desc).map (fun d => d.parameters.length) = some 2 := (by decide +kernel); rw [h] at h2; exact (Option.some.inj h2).symm⟩
theorem md_X0_lay : et_MD yX0_lay cX0_lay 4 (none) 0 := ⟨et_mt 577 (by decide +kernel) rfl, et_mt 120 (by decide +kernel) rfl, ⟨by decide, by decide⟩, fun sig h => by have h2 : (parseMethodDescriptor (yX0_lay).desc).map (fun d => d.parameters.length) = some 0 := (by decide +kernel); rw [h] at h2; exact (Option.some.inj h2).symm⟩
theorem md_X0_openEyes : et_MD yX0_openEyes cX0_openEyes 6 (none) 0 := ⟨et_mt 1190 (by decide +kernel) rfl, et_mt 120 (by decide +kernel) rfl, ⟨by decide, by decide⟩, fun sig h => by have h2 : (parseMethodDescriptor (yX0_openEyes).desc).map (fun d => d.parameters.length) = some 0 := (by decide +kernel); rw [h] at h2; exact (Option.some.inj h2).symm⟩
theorem md_X0_openThingEyes : et_MD yX0_openThingEyes cX0_openThingEyes 6 (some .boolean) 1 := ⟨et_mt 1194 (by decide +kernel) rfl, et_mt 120 (by decide +kernel) rfl, ⟨by decide, by decide⟩, fun sig h => by have h2 : (parseMethodDescriptor (yX0_openThingEyes).desc).map (fun d => d.parameters.length) = some 1 := (by decide +kernel); rw [h] at h2; exact (Option.some.inj h2).symm⟩
theorem md_X0_rings : et_MD yX0_rings cX0_rings 3 (some .int) 0 := ⟨et_mt 1237 (by decide +kernel) rfl, et_mt 120 (by decide +kernel) rfl, ⟨by decide, by decide⟩, fun sig h => by have h2 : (parseMethodDescriptor (yX0_rings).desc).map (fun d => d.parameters.length) = some 0 := (by decide +kernel); rw [h] at h2; exact (Option.some.inj h2).symm⟩
theorem md_X0_rise : et_MD yX0_rise cX0_rise 7 (none) 2 := ⟨et_mt 629 (by decide +kernel) rfl, et_mt 120 (by decide +kernel) rfl, ⟨by decide, by decide⟩, fun sig h => by have h2 : (parseMethodDescriptor (yX0_rise).desc).map (fun d => d.parameters.length) = some 2 := (by decide +kernel); rw [h] at h2; exact (Option.some.inj h2).symm⟩
theorem md_X0_rising : et_MD yX0_rising cX0_rising 8 (some .int) 3 := ⟨et_mt 633 (by decide +kernel) rfl, et_mt 120 (by decide +kernel) rfl, ⟨by decide, by decide⟩, fun sig h => by have h2 : (parseMethodDescriptor (yX0_rising).desc).map (fun d => d.parameters.length) = some 3 := (by decide +kernel); rw [h] at h2; exact (Option.some.inj h2).symm⟩
theorem md_X0_ruleEyes : et_MD yX0_ruleEyes cX0_ruleEyes 5 (some .int) 2 := ⟨et_mt 1198 (by decide +kernel) rfl, et_mt 120 (by decide +kernel) rfl, ⟨by decide, by decide⟩, fun sig h => by have h2 : (parseMethodDescriptor (yX0_ruleEyes).desc).map (fun d => d.parameters.length) = some 2 := (by decide +kernel); rw [h] at h2; exact (Option.some.inj h2).symm⟩
theorem md_X0_settle : et_MD yX0_settle cX0_settle 1 (none) 0 := ⟨et_mt 1179 (by decide +kernel) rfl, et_mt 120 (by decide +kernel) rfl, ⟨by decide, by decide⟩, fun sig h => by have h2 : (parseMethodDescriptor (yX0_settle).desc).map (fun d => d.parameters.length) = some 0 := (by decide +kernel); rw [h] at h2; exact (Option.some.inj h2).symm⟩
theorem md_X0_standing : et_MD yX0_standing cX0_standing 6 (some .int) 2 := ⟨et_mt 665 (by decide +kernel) rfl, et_mt 120 (by decide +kernel) rfl, ⟨by decide, by decide⟩, fun sig h => by have h2 : (parseMethodDescriptor (yX0_standing).desc).map (fun d => d.parameters.length) = some 2 := (by decide +kernel); rw [h] at h2; exact (Option.some.inj h2).symm⟩
theorem md_X0_standingHows : et_MD yX0_standingHows cX0_standingHows 5 (some .int) 3 := ⟨et_mt 638 (by decide +kernel) rfl, et_mt 120 (by decide +kernel) rfl, ⟨by decide, by decide⟩, fun sig h => by have h2 : (parseMethodDescriptor (yX0_standingHows).desc).map (fun d => d.parameters.length) = some 3 := (by decide +kernel); rw [h] at h2; exact (Option.some.inj h2).symm⟩
theorem md_X0_tailEyes : et_MD yX0_tailEyes cX0_tailEyes 5 (some .int) 2 := ⟨et_mt 1203 (by decide +kernel) rfl, et_mt 120 (by decide +kernel) rfl, ⟨by decide, by decide⟩, fun sig h => by have h2 : (parseMethodDescriptor (yX0_tailEyes).desc).map (fun d => d.parameters.length) = some 2 := (by decide +kernel); rw [h] at h2; exact (Option.some.inj h2).symm⟩
theorem md_X0_unheld : et_MD yX0_unheld cX0_unheld 1 (some .int) 0 := ⟨et_mt 1233 (by decide +kernel) rfl, et_mt 120 (by decide +kernel) rfl, ⟨by decide, by decide⟩, fun sig h => by have h2 : (parseMethodDescriptor (yX0_unheld).desc).map (fun d => d.parameters.length) = some 0 := (by decide +kernel); rw [h] at h2; exact (Option.some.inj h2).symm⟩
theorem md_X0_widenAll : et_MD yX0_widenAll cX0_widenAll 6 (some .boolean) 2 := ⟨et_mt 653 (by decide +kernel) rfl, et_mt 120 (by decide +kernel) rfl, ⟨by decide, by decide⟩, fun sig h => by have h2 : (parseMethodDescriptor (yX0_widenAll).desc).map (fun d => d.parameters.length) = some 2 := (by decide +kernel); rw [h] at h2; exact (Option.some.inj h2).symm⟩
theorem md_X0_widened : et_MD yX0_widened cX0_widened 6 (some .int) 3 := ⟨et_mt 657 (by decide +kernel) rfl, et_mt 120 (by decide +kernel) rfl, ⟨by decide, by decide⟩, fun sig h => by have h2 : (parseMethodDescriptor (yX0_widened).desc).map (fun d => d.parameters.length) = some 3 := (by decide +kernel); rw [h] at h2; exact (Option.some.inj h2).symm⟩
theorem md_X0_widest : et_MD yX0_widest cX0_widest 6 (some .int) 2 := ⟨et_mt 669 (by decide +kernel) rfl, et_mt 120 (by decide +kernel) rfl, ⟨by decide, by decide⟩, fun sig h => by have h2 : (parseMethodDescriptor (yX0_widest).desc).map (fun d => d.parameters.length) = some 2 := (by decide +kernel); rw [h] at h2; exact (Option.some.inj h2).symm⟩
theorem md_X10_adds : et_MD yX10_adds cX10_adds 2 (none) 1 := ⟨et_mt 1724 (by decide +kernel) rfl, et_mt 122 (by decide +kernel) rfl, ⟨by decide, by decide⟩, fun sig h => by have h2 : (parseMethodDescriptor (yX10_adds).desc).map (fun d => d.parameters.length) = some 1 := (by decide +kernel); rw [h] at h2; exact (Option.some.inj h2).symm⟩
theorem md_X10_adds5 : et_MD yX10_adds5 cX10_adds5 7 (some .int) 5 := ⟨et_mt 1748 (by decide +kernel) rfl, et_mt 122 (by decide +kernel) rfl, ⟨by decide, by decide⟩, fun sig h => by have h2 : (parseMethodDescriptor (yX10_adds5).desc).map (fun d => d.parameters.length) = some 5 := (by decide +kernel); rw [h] at h2; exact (Option.some.inj h2).symm⟩
theorem md_X10_all : et_MD yX10_all cX10_all 1 (some .int) 0 := ⟨et_mt 1788 (by decide +kernel) rfl, et_mt 122 (by decide +kernel) rfl, ⟨by decide, by decide⟩, fun sig h => by have h2 : (parseMethodDescriptor (yX10_all).desc).map (fun d => d.parameters.length) = some 0 := (by decide +kernel); rw [h] at h2; exact (Option.some.inj h2).symm⟩
theorem md_X10_among : et_MD yX10_among cX10_among 3 (some .int) 1 := ⟨et_mt 1650 (by decide +kernel) rfl, et_mt 122 (by decide +kernel) rfl, ⟨by decide, by decide⟩, fun sig h => by have h2 : (parseMethodDescriptor (yX10_among).desc).map (fun d => d.parameters.length) = some 1 := (by decide +kernel); rw [h] at h2; exact (Option.some.inj h2).symm⟩
theorem md_X10_amongHere : et_MD yX10_amongHere cX10_amongHere 2 (some .boolean) 1 := ⟨et_mt 1654 (by decide +kernel) rfl, et_mt 122 (by decide +kernel) rfl, ⟨by decide, by decide⟩, fun sig h => by have h2 : (parseMethodDescriptor (yX10_amongHere).desc).map (fun d => d.parameters.length) = some 1 := (by decide +kernel); rw [h] at h2; exact (Option.some.inj h2).symm⟩
theorem md_X10_asks : et_MD yX10_asks cX10_asks 4 (none) 2 := ⟨et_mt 1780 (by decide +kernel) rfl, et_mt 122 (by decide +kernel) rfl, ⟨by decide, by decide⟩, fun sig h => by have h2 : (parseMethodDescriptor (yX10_asks).desc).map (fun d => d.parameters.length) = some 2 := (by decide +kernel); rw [h] at h2; exact (Option.some.inj h2).symm⟩
theorem md_X10_begins : et_MD yX10_begins cX10_begins 5 (some .boolean) 2 := ⟨et_mt 1720 (by decide +kernel) rfl, et_mt 122 (by decide +kernel) rfl, ⟨by decide, by decide⟩, fun sig h => by have h2 : (parseMethodDescriptor (yX10_begins).desc).map (fun d => d.parameters.length) = some 2 := (by decide +kernel); rw [h] at h2; exact (Option.some.inj h2).symm⟩
theorem md_X10_bits : et_MD yX10_bits cX10_bits 3 (some .int) 1 := ⟨et_mt 1688 (by decide +kernel) rfl, et_mt 122 (by decide +kernel) rfl, ⟨by decide, by decide⟩, fun sig h => by have h2 : (parseMethodDescriptor (yX10_bits).desc).map (fun d => d.parameters.length) = some 1 := (by decide +kernel); rw [h] at h2; exact (Option.some.inj h2).symm⟩
theorem md_X10_blanks : et_MD yX10_blanks cX10_blanks 4 (some .int) 2 := ⟨et_mt 1756 (by decide +kernel) rfl, et_mt 122 (by decide +kernel) rfl, ⟨by decide, by decide⟩, fun sig h => by have h2 : (parseMethodDescriptor (yX10_blanks).desc).map (fun d => d.parameters.length) = some 2 := (by decide +kernel); rw [h] at h2; exact (Option.some.inj h2).symm⟩
theorem md_X10_byHow : et_MD yX10_byHow cX10_byHow 7 (some .int) 4 := ⟨et_mt 1800 (by decide +kernel) rfl, et_mt 122 (by decide +kernel) rfl, ⟨by decide, by decide⟩, fun sig h => by have h2 : (parseMethodDescriptor (yX10_byHow).desc).map (fun d => d.parameters.length) = some 4 := (by decide +kernel); rw [h] at h2; exact (Option.some.inj h2).symm⟩
theorem md_X10_byRules : et_MD yX10_byRules cX10_byRules 8 (some .int) 2 := ⟨et_mt 1812 (by decide +kernel) rfl, et_mt 122 (by decide +kernel) rfl, ⟨by decide, by decide⟩, fun sig h => by have h2 : (parseMethodDescriptor (yX10_byRules).desc).map (fun d => d.parameters.length) = some 2 := (by decide +kernel); rw [h] at h2; exact (Option.some.inj h2).symm⟩
theorem md_X10_byTold : et_MD yX10_byTold cX10_byTold 7 (some .int) 4 := ⟨et_mt 1804 (by decide +kernel) rfl, et_mt 122 (by decide +kernel) rfl, ⟨by decide, by decide⟩, fun sig h => by have h2 : (parseMethodDescriptor (yX10_byTold).desc).map (fun d => d.parameters.length) = some 4 := (by decide +kernel); rw [h] at h2; exact (Option.some.inj h2).symm⟩
theorem md_X10_byteAt : et_MD yX10_byteAt cX10_byteAt 2 (some .int) 1 := ⟨et_mt 1602 (by decide +kernel) rfl, et_mt 122 (by decide +kernel) rfl, ⟨by decide, by decide⟩, fun sig h => by have h2 : (parseMethodDescriptor (yX10_byteAt).desc).map (fun d => d.parameters.length) = some 1 := (by decide +kernel); rw [h] at h2; exact (Option.some.inj h2).symm⟩
theorem md_X10_copies : et_MD yX10_copies cX10_copies 4 (none) 2 := ⟨et_mt 1674 (by decide +kernel) rfl, et_mt 122 (by decide +kernel) rfl, ⟨by decide, by decide⟩, fun sig h => by have h2 : (parseMethodDescriptor (yX10_copies).desc).map (fun d => d.parameters.length) = some 2 := (by decide +kernel); rw [h] at h2; exact (Option.some.inj h2).symm⟩
theorem md_X10_empties : et_MD yX10_empties cX10_empties 2 (none) 0 := ⟨et_mt 1594 (by decide +kernel) rfl, et_mt 122 (by decide +kernel) rfl, ⟨by decide, by decide⟩, fun sig h => by have h2 : (parseMethodDescriptor (yX10_empties).desc).map (fun d => d.parameters.length) = some 0 := (by decide +kernel); rw [h] at h2; exact (Option.some.inj h2).symm⟩
theorem md_X10_ends : et_MD yX10_ends cX10_ends 6 (some .boolean) 2 := ⟨et_mt 1716 (by decide +kernel) rfl, et_mt 122 (by decide +kernel) rfl, ⟨by decide, by decide⟩, fun sig h => by have h2 : (parseMethodDescriptor (yX10_ends).desc).map (fun d => d.parameters.length) = some 2 := (by decide +kernel); rw [h] at h2; exact (Option.some.inj h2).symm⟩
theorem md_X10_eyesBy : et_MD yX10_eyesBy cX10_eyesBy 6 (some .int) 4 := ⟨et_mt 1824 (by decide +kernel) rfl, et_mt 122 (by decide +kernel) rfl, ⟨by decide, by decide⟩, fun sig h => by have h2 : (parseMethodDescriptor (yX10_eyesBy).desc).map (fun d => d.parameters.length) = some 4 := (by decide +kernel); rw [h] at h2; exact (Option.some.inj h2).symm⟩
theorem md_X10_faults : et_MD yX10_faults cX10_faults 2 (none) 1 := ⟨et_mt 1630 (by decide +kernel) rfl, et_mt 122 (by decide +kernel) rfl, ⟨by decide, by decide⟩, fun sig h => by have h2 : (parseMethodDescriptor (yX10_faults).desc).map (fun d => d.parameters.length) = some 1 := (by decide +kernel); rw [h] at h2; exact (Option.some.inj h2).symm⟩
theorem md_X10_finds : et_MD yX10_finds cX10_finds 6 (none) 2 := ⟨et_mt 1732 (by decide +kernel) rfl, et_mt 122 (by decide +kernel) rfl, ⟨by decide, by decide⟩, fun sig h => by have h2 : (parseMethodDescriptor (yX10_finds).desc).map (fun d => d.parameters.length) = some 2 := (by decide +kernel); rw [h] at h2; exact (Option.some.inj h2).symm⟩
theorem md_X10_holding : et_MD yX10_holding cX10_holding 5 (some .int) 1 := ⟨et_mt 1844 (by decide +kernel) rfl, et_mt 122 (by decide +kernel) rfl, ⟨by decide, by decide⟩, fun sig h => by have h2 : (parseMethodDescriptor (yX10_holding).desc).map (fun d => d.parameters.length) = some 1 := (by decide +kernel); rw [h] at h2; exact (Option.some.inj h2).symm⟩
theorem md_X10_is : et_MD yX10_is cX10_is 2 (some .boolean) 1 := ⟨et_mt 1620 (by decide +kernel) rfl, et_mt 122 (by decide +kernel) rfl, ⟨by decide, by decide⟩, fun sig h => by have h2 : (parseMethodDescriptor (yX10_is).desc).map (fun d => d.parameters.length) = some 1 := (by decide +kernel); rw [h] at h2; exact (Option.some.inj h2).symm⟩
theorem md_X10_isBy : et_MD yX10_isBy cX10_isBy 7 (some .boolean) 5 := ⟨et_mt 1816 (by decide +kernel) rfl, et_mt 122 (by decide +kernel) rfl, ⟨by decide, by decide⟩, fun sig h => by have h2 : (parseMethodDescriptor (yX10_isBy).desc).map (fun d => d.parameters.length) = some 5 := (by decide +kernel); rw [h] at h2; exact (Option.some.inj h2).symm⟩
theorem md_X10_isDigit : et_MD yX10_isDigit cX10_isDigit 1 (some .boolean) 1 := ⟨et_mt 1608 (by decide +kernel) rfl, et_mt 122 (by decide +kernel) rfl, ⟨by decide, by decide⟩, fun sig h => by have h2 : (parseMethodDescriptor (yX10_isDigit).desc).map (fun d => d.parameters.length) = some 1 := (by decide +kernel); rw [h] at h2; exact (Option.some.inj h2).symm⟩
theorem md_X10_isGood : et_MD yX10_isGood cX10_isGood 1 (some .boolean) 0 := ⟨et_mt 1612 (by decide +kernel) rfl, et_mt 122 (by decide +kernel) rfl, ⟨by decide, by decide⟩, fun sig h => by have h2 : (parseMethodDescriptor (yX10_isGood).desc).map (fun d => d.parameters.length) = some 0 := (by decide +kernel); rw [h] at h2; exact (Option.some.inj h2).symm⟩
theorem md_X10_isLetter : et_MD yX10_isLetter cX10_isLetter 1 (some .boolean) 1 := ⟨et_mt 1605 (by decide +kernel) rfl, et_mt 122 (by decide +kernel) rfl, ⟨by decide, by decide⟩, fun sig h => by have h2 : (parseMethodDescriptor (yX10_isLetter).desc).map (fun d => d.parameters.length) = some 1 := (by decide +kernel); rw [h] at h2; exact (Option.some.inj h2).symm⟩
theorem md_X10_isNot : et_MD yX10_isNot cX10_isNot 4 (some .boolean) 2 := ⟨et_mt 1764 (by decide +kernel) rfl, et_mt 122 (by decide +kernel) rfl, ⟨by decide, by decide⟩, fun sig h => by have h2 : (parseMethodDescriptor (yX10_isNot).desc).map (fun d => d.parameters.length) = some 2 := (by decide +kernel); rw [h] at h2; exact (Option.some.inj h2).symm⟩
theorem md_X10_isThing : et_MD yX10_isThing cX10_isThing 2 (some .boolean) 1 := ⟨et_mt 1704 (by decide +kernel) rfl, et_mt 122 (by decide +kernel) rfl, ⟨by decide, by decide⟩, fun sig h => by have h2 : (parseMethodDescriptor (yX10_isThing).desc).map (fun d => d.parameters.length) = some 1 := (by decide +kernel); rw [h] at h2; exact (Option.some.inj h2).symm⟩
theorem md_X10_isTold : et_MD yX10_isTold cX10_isTold 6 (some .boolean) 5 := ⟨et_mt 1808 (by decide +kernel) rfl, et_mt 122 (by decide +kernel) rfl, ⟨by decide, by decide⟩, fun sig h => by have h2 : (parseMethodDescriptor (yX10_isTold).desc).map (fun d => d.parameters.length) = some 5 := (by decide +kernel); rw [h] at h2; exact (Option.some.inj h2).symm⟩
theorem md_X10_isWho : et_MD yX10_isWho cX10_isWho 3 (some .boolean) 2 := ⟨et_mt 1696 (by decide +kernel) rfl, et_mt 122 (by decide +kernel) rfl, ⟨by decide, by decide⟩, fun sig h => by have h2 : (parseMethodDescriptor (yX10_isWho).desc).map (fun d => d.parameters.length) = some 2 := (by decide +kernel); rw [h] at h2; exact (Option.some.inj h2).symm⟩
theorem md_X10_knows : et_MD yX10_knows cX10_knows 8 (some .int) 2 := ⟨et_mt 1882 (by decide +kernel) rfl, et_mt 122 (by decide +kernel) rfl, ⟨by decide, by decide⟩, fun sig h => by have h2 : (parseMethodDescriptor (yX10_knows).desc).map (fun d => d.parameters.length) = some 2 := (by decide +kernel); rw [h] at h2; exact (Option.some.inj h2).symm⟩
theorem md_X10_lays : et_MD yX10_lays cX10_lays 3 (none) 1 := ⟨et_mt 1582 (by decide +kernel) rfl, et_mt 122 (by decide +kernel) rfl, ⟨by decide, by decide⟩, fun sig h => by have h2 : (parseMethodDescriptor (yX10_lays).desc).map (fun d => d.parameters.length) = some 1 := (by decide +kernel); rw [h] at h2; exact (Option.some.inj h2).symm⟩
theorem md_X10_least : et_MD yX10_least cX10_least 7 (some .int) 3 := ⟨et_mt 1796 (by decide +kernel) rfl, et_mt 122 (by decide +kernel) rfl, ⟨by decide, by decide⟩, fun sig h => by have h2 : (parseMethodDescriptor (yX10_least).desc).map (fun d => d.parameters.length) = some 3 := (by decide +kernel); rw [h] at h2; exact (Option.some.inj h2).symm⟩
theorem md_X10_letters : et_MD yX10_letters cX10_letters 1 (some .long) 1 := ⟨et_mt 1623 (by decide +kernel) rfl, et_mt 122 (by decide +kernel) rfl, ⟨by decide, by decide⟩, fun sig h => by have h2 : (parseMethodDescriptor (yX10_letters).desc).map (fun d => d.parameters.length) = some 1 := (by decide +kernel); rw [h] at h2; exact (Option.some.inj h2).symm⟩
theorem md_X10_lettersTo : et_MD yX10_lettersTo cX10_lettersTo 4 (some .int) 2 := ⟨et_mt 1760 (by decide +kernel) rfl, et_mt 122 (by decide +kernel) rfl, ⟨by decide, by decide⟩, fun sig h => by have h2 : (parseMethodDescriptor (yX10_lettersTo).desc).map (fun d => d.parameters.length) = some 2 := (by decide +kernel); rw [h] at h2; exact (Option.some.inj h2).symm⟩
theorem md_X10_line : et_MD yX10_line cX10_line 4 (none) 0 := ⟨et_mt 1616 (by decide +kernel) rfl, et_mt 122 (by decide +kernel) rfl, ⟨by decide, by decide⟩, fun sig h => by have h2 : (parseMethodDescriptor (yX10_line).desc).map (fun d => d.parameters.length) = some 0 := (by decide +kernel); rw [h] at h2; exact (Option.some.inj h2).symm⟩
theorem md_X10_looks : et_MD yX10_looks cX10_looks 6 (none) 0 := ⟨et_mt 1820 (by decide +kernel) rfl, et_mt 122 (by decide +kernel) rfl, ⟨by decide, by decide⟩, fun sig h => by have h2 : (parseMethodDescriptor (yX10_looks).desc).map (fun d => d.parameters.length) = some 0 := (by decide +kernel); rw [h] at h2; exact (Option.some.inj h2).symm⟩
theorem md_X10_low : et_MD yX10_low cX10_low 4 (some .int) 2 := ⟨et_mt 1889 (by decide +kernel) rfl, et_mt 122 (by decide +kernel) rfl, ⟨by decide, by decide⟩, fun sig h => by have h2 : (parseMethodDescriptor (yX10_low).desc).map (fun d => d.parameters.length) = some 2 := (by decide +kernel); rw [h] at h2; exact (Option.some.inj h2).symm⟩
theorem md_X10_need : et_MD yX10_need cX10_need 2 (none) 1 := ⟨et_mt 1670 (by decide +kernel) rfl, et_mt 122 (by decide +kernel) rfl, ⟨by decide, by decide⟩, fun sig h => by have h2 : (parseMethodDescriptor (yX10_need).desc).map (fun d => d.parameters.length) = some 1 := (by decide +kernel); rw [h] at h2; exact (Option.some.inj h2).symm⟩
theorem md_X10_number : et_MD yX10_number cX10_number 4 (some .int) 2 := ⟨et_mt 1642 (by decide +kernel) rfl, et_mt 122 (by decide +kernel) rfl, ⟨by decide, by decide⟩, fun sig h => by have h2 : (parseMethodDescriptor (yX10_number).desc).map (fun d => d.parameters.length) = some 2 := (by decide +kernel); rw [h] at h2; exact (Option.some.inj h2).symm⟩
theorem md_X10_of : et_MD yX10_of cX10_of 3 (some .int) 2 := ⟨et_mt 1776 (by decide +kernel) rfl, et_mt 122 (by decide +kernel) rfl, ⟨by decide, by decide⟩, fun sig h => by have h2 : (parseMethodDescriptor (yX10_of).desc).map (fun d => d.parameters.length) = some 2 := (by decide +kernel); rw [h] at h2; exact (Option.some.inj h2).symm⟩
theorem md_X10_pairAt : et_MD yX10_pairAt cX10_pairAt 4 (some .int) 2 := ⟨et_mt 1784 (by decide +kernel) rfl, et_mt 122 (by decide +kernel) rfl, ⟨by decide, by decide⟩, fun sig h => by have h2 : (parseMethodDescriptor (yX10_pairAt).desc).map (fun d => d.parameters.length) = some 2 := (by decide +kernel); rw [h] at h2; exact (Option.some.inj h2).symm⟩
theorem md_X10_placeOf : et_MD yX10_placeOf cX10_placeOf 2 (some .int) 1 := ⟨et_mt 1874 (by decide +kernel) rfl, et_mt 122 (by decide +kernel) rfl, ⟨by decide, by decide⟩, fun sig h => by have h2 : (parseMethodDescriptor (yX10_placeOf).desc).map (fun d => d.parameters.length) = some 1 := (by decide +kernel); rw [h] at h2; exact (Option.some.inj h2).symm⟩
theorem md_X10_readsAt : et_MD yX10_readsAt cX10_readsAt 4 (none) 0 := ⟨et_mt 1666 (by decide +kernel) rfl, et_mt 122 (by decide +kernel) rfl, ⟨by decide, by decide⟩, fun sig h => by have h2 : (parseMethodDescriptor (yX10_readsAt).desc).map (fun d => d.parameters.length) = some 0 := (by decide +kernel); rw [h] at h2; exact (Option.some.inj h2).symm⟩
theorem md_X10_readsEnding : et_MD yX10_readsEnding cX10_readsEnding 3 (none) 0 := ⟨et_mt 1638 (by decide +kernel) rfl, et_mt 122 (by decide +kernel) rfl, ⟨by decide, by decide⟩, fun sig h => by have h2 : (parseMethodDescriptor (yX10_readsEnding).desc).map (fun d => d.parameters.length) = some 0 := (by decide +kernel); rw [h] at h2; exact (Option.some.inj h2).symm⟩
theorem md_X10_readsNear : et_MD yX10_readsNear cX10_readsNear 2 (none) 0 := ⟨et_mt 1646 (by decide +kernel) rfl, et_mt 122 (by decide +kernel) rfl, ⟨by decide, by decide⟩, fun sig h => by have h2 : (parseMethodDescriptor (yX10_readsNear).desc).map (fun d => d.parameters.length) = some 0 := (by decide +kernel); rw [h] at h2; exact (Option.some.inj h2).symm⟩
theorem md_X10_readsRule : et_MD yX10_readsRule cX10_readsRule 4 (none) 0 := ⟨et_mt 1662 (by decide +kernel) rfl, et_mt 122 (by decide +kernel) rfl, ⟨by decide, by decide⟩, fun sig h => by have h2 : (parseMethodDescriptor (yX10_readsRule).desc).map (fun d => d.parameters.length) = some 0 := (by decide +kernel); rw [h] at h2; exact (Option.some.inj h2).symm⟩
theorem md_X10_readsThing : et_MD yX10_readsThing cX10_readsThing 3 (none) 0 := ⟨et_mt 1658 (by decide +kernel) rfl, et_mt 122 (by decide +kernel) rfl, ⟨by decide, by decide⟩, fun sig h => by have h2 : (parseMethodDescriptor (yX10_readsThing).desc).map (fun d => d.parameters.length) = some 0 := (by decide +kernel); rw [h] at h2; exact (Option.some.inj h2).symm⟩
theorem md_X10_real : et_MD yX10_real cX10_real 3 (some .int) 0 := ⟨et_mt 1893 (by decide +kernel) rfl, et_mt 122 (by decide +kernel) rfl, ⟨by decide, by decide⟩, fun sig h => by have h2 : (parseMethodDescriptor (yX10_real).desc).map (fun d => d.parameters.length) = some 0 := (by decide +kernel); rw [h] at h2; exact (Option.some.inj h2).symm⟩
theorem md_X10_reckons : et_MD yX10_reckons cX10_reckons 7 (none) 2 := ⟨et_mt 1792 (by decide +kernel) rfl, et_mt 122 (by decide +kernel) rfl, ⟨by decide, by decide⟩, fun sig h => by have h2 : (parseMethodDescriptor (yX10_reckons).desc).map (fun d => d.parameters.length) = some 2 := (by decide +kernel); rw [h] at h2; exact (Option.some.inj h2).symm⟩
theorem md_X10_refuses : et_MD yX10_refuses cX10_refuses 2 (some .int) 1 := ⟨et_mt 1744 (by decide +kernel) rfl, et_mt 122 (by decide +kernel) rfl, ⟨by decide, by decide⟩, fun sig h => by have h2 : (parseMethodDescriptor (yX10_refuses).desc).map (fun d => d.parameters.length) = some 1 := (by decide +kernel); rw [h] at h2; exact (Option.some.inj h2).symm⟩
theorem md_X10_right : et_MD yX10_right cX10_right 3 (some .boolean) 2 := ⟨et_mt 1590 (by decide +kernel) rfl, et_mt 122 (by decide +kernel) rfl, ⟨by decide, by decide⟩, fun sig h => by have h2 : (parseMethodDescriptor (yX10_right).desc).map (fun d => d.parameters.length) = some 2 := (by decide +kernel); rw [h] at h2; exact (Option.some.inj h2).symm⟩
theorem md_X10_ruleEyes : et_MD yX10_ruleEyes cX10_ruleEyes 8 (some .int) 2 := ⟨et_mt 1832 (by decide +kernel) rfl, et_mt 122 (by decide +kernel) rfl, ⟨by decide, by decide⟩, fun sig h => by have h2 : (parseMethodDescriptor (yX10_ruleEyes).desc).map (fun d => d.parameters.length) = some 2 := (by decide +kernel); rw [h] at h2; exact (Option.some.inj h2).symm⟩
theorem md_X10_seenBy : et_MD yX10_seenBy cX10_seenBy 5 (some .int) 1 := ⟨et_mt 1886 (by decide +kernel) rfl, et_mt 122 (by decide +kernel) rfl, ⟨by decide, by decide⟩, fun sig h => by have h2 : (parseMethodDescriptor (yX10_seenBy).desc).map (fun d => d.parameters.length) = some 1 := (by decide +kernel); rw [h] at h2; exact (Option.some.inj h2).symm⟩
theorem md_X10_speaks : et_MD yX10_speaks cX10_speaks 7 (none) 2 := ⟨et_mt 1712 (by decide +kernel) rfl, et_mt 122 (by decide +kernel) rfl, ⟨by decide, by decide⟩, fun sig h => by have h2 : (parseMethodDescriptor (yX10_speaks).desc).map (fun d => d.parameters.length) = some 2 := (by decide +kernel); rw [h] at h2; exact (Option.some.inj h2).symm⟩
theorem md_X10_spelled : et_MD yX10_spelled cX10_spelled 8 (some .long) 6 := ⟨et_mt 1626 (by decide +kernel) rfl, et_mt 122 (by decide +kernel) rfl, ⟨by decide, by decide⟩, fun sig h => by have h2 : (parseMethodDescriptor (yX10_spelled).desc).map (fun d => d.parameters.length) = some 6 := (by decide +kernel); rw [h] at h2; exact (Option.some.inj h2).symm⟩
theorem md_X10_steps : et_MD yX10_steps cX10_steps 2 (none) 0 := ⟨et_mt 1598 (by decide +kernel) rfl, et_mt 122 (by decide +kernel) rfl, ⟨by decide, by decide⟩, fun sig h => by have h2 : (parseMethodDescriptor (yX10_steps).desc).map (fun d => d.parameters.length) = some 0 := (by decide +kernel); rw [h] at h2; exact (Option.some.inj h2).symm⟩
theorem md_X10_toldEyes : et_MD yX10_toldEyes cX10_toldEyes 7 (some .int) 4 := ⟨et_mt 1828 (by decide +kernel) rfl, et_mt 122 (by decide +kernel) rfl, ⟨by decide, by decide⟩, fun sig h => by have h2 : (parseMethodDescriptor (yX10_toldEyes).desc).map (fun d => d.parameters.length) = some 4 := (by decide +kernel); rw [h] at h2; exact (Option.some.inj h2).symm⟩
theorem md_X10_within : et_MD yX10_within cX10_within 3 (some .boolean) 3 := ⟨et_mt 1685 (by decide +kernel) rfl, et_mt 122 (by decide +kernel) rfl, ⟨by decide, by decide⟩, fun sig h => by have h2 : (parseMethodDescriptor (yX10_within).desc).map (fun d => d.parameters.length) = some 3 := (by decide +kernel); rw [h] at h2; exact (Option.some.inj h2).symm⟩
theorem md_X10_word0 : et_MD yX10_word0 cX10_word0 4 (none) 2 := ⟨et_mt 1634 (by decide +kernel) rfl, et_mt 122 (by decide +kernel) rfl, ⟨by decide, by decide⟩, fun sig h => by have h2 : (parseMethodDescriptor (yX10_word0).desc).map (fun d => d.parameters.length) = some 2 := (by decide +kernel); rw [h] at h2; exact (Option.some.inj h2).symm⟩
theorem md_X10_worldsOf : et_MD yX10_worldsOf cX10_worldsOf 6 (some .int) 2 := ⟨et_mt 1878 (by decide +kernel) rfl, et_mt 122 (by decide +kernel) rfl, ⟨by decide, by decide⟩, fun sig h => by have h2 : (parseMethodDescriptor (yX10_worldsOf).desc).map (fun d => d.parameters.length) = some 2 := (by decide +kernel); rw [h] at h2; exact (Option.some.inj h2).symm⟩
theorem md_X1_add : et_MD yX1_add cX1_add 6 (some .boolean) 5 := ⟨et_mt 1131 (by decide +kernel) rfl, et_mt 118 (by decide +kernel) rfl, ⟨by decide, by decide⟩, fun sig h => by have h2 : (parseMethodDescriptor (yX1_add).desc).map (fun d => d.parameters.length) = some 5 := (by decide +kernel); rw [h] at h2; exact (Option.some.inj h2).symm⟩
theorem md_X1_copyFrom : et_MD yX1_copyFrom cX1_copyFrom 3 (none) 1 := ⟨et_mt 687 (by decide +kernel) rfl, et_mt 118 (by decide +kernel) rfl, ⟨by decide, by decide⟩, fun sig h => by have h2 : (parseMethodDescriptor (yX1_copyFrom).desc).map (fun d => d.parameters.length) = some 1 := (by decide +kernel); rw [h] at h2; exact (Option.some.inj h2).symm⟩
theorem md_X1_every : et_MD yX1_every cX1_every 1 (some .int) 0 := ⟨et_mt 625 (by decide +kernel) rfl, et_mt 118 (by decide +kernel) rfl, ⟨by decide, by decide⟩, fun sig h => by have h2 : (parseMethodDescriptor (yX1_every).desc).map (fun d => d.parameters.length) = some 0 := (by decide +kernel); rw [h] at h2; exact (Option.some.inj h2).symm⟩
theorem md_X1_isHeardBy : et_MD yX1_isHeardBy cX1_isHeardBy 4 (some .boolean) 3 := ⟨et_mt 588 (by decide +kernel) rfl, et_mt 118 (by decide +kernel) rfl, ⟨by decide, by decide⟩, fun sig h => by have h2 : (parseMethodDescriptor (yX1_isHeardBy).desc).map (fun d => d.parameters.length) = some 3 := (by decide +kernel); rw [h] at h2; exact (Option.some.inj h2).symm⟩
theorem md_X2_clear : et_MD yX2_clear cX2_clear 1 (none) 0 := ⟨et_mt 999 (by decide +kernel) rfl, et_mt 121 (by decide +kernel) rfl, ⟨by decide, by decide⟩, fun sig h => by have h2 : (parseMethodDescriptor (yX2_clear).desc).map (fun d => d.parameters.length) = some 0 := (by decide +kernel); rw [h] at h2; exact (Option.some.inj h2).symm⟩
theorem md_X2_fewest : et_MD yX2_fewest cX2_fewest 10 (some .int) 0 := ⟨et_mt 621 (by decide +kernel) rfl, et_mt 121 (by decide +kernel) rfl, ⟨by decide, by decide⟩, fun sig h => by have h2 : (parseMethodDescriptor (yX2_fewest).desc).map (fun d => d.parameters.length) = some 0 := (by decide +kernel); rw [h] at h2; exact (Option.some.inj h2).symm⟩
theorem md_X2_keepFewest : et_MD yX2_keepFewest cX2_keepFewest 3 (some .int) 0 := ⟨et_mt 573 (by decide +kernel) rfl, et_mt 121 (by decide +kernel) rfl, ⟨by decide, by decide⟩, fun sig h => by have h2 : (parseMethodDescriptor (yX2_keepFewest).desc).map (fun d => d.parameters.length) = some 0 := (by decide +kernel); rw [h] at h2; exact (Option.some.inj h2).symm⟩
theorem md_X3_alike : et_MD yX3_alike cX3_alike 5 (some .int) 2 := ⟨et_mt 1322 (by decide +kernel) rfl, et_mt 119 (by decide +kernel) rfl, ⟨by decide, by decide⟩, fun sig h => by have h2 : (parseMethodDescriptor (yX3_alike).desc).map (fun d => d.parameters.length) = some 2 := (by decide +kernel); rw [h] at h2; exact (Option.some.inj h2).symm⟩
theorem md_X3_clear : et_MD yX3_clear cX3_clear 1 (none) 0 := ⟨et_mt 995 (by decide +kernel) rfl, et_mt 119 (by decide +kernel) rfl, ⟨by decide, by decide⟩, fun sig h => by have h2 : (parseMethodDescriptor (yX3_clear).desc).map (fun d => d.parameters.length) = some 0 := (by decide +kernel); rw [h] at h2; exact (Option.some.inj h2).symm⟩
theorem md_X3_copyFrom : et_MD yX3_copyFrom cX3_copyFrom 2 (none) 1 := ⟨et_mt 694 (by decide +kernel) rfl, et_mt 119 (by decide +kernel) rfl, ⟨by decide, by decide⟩, fun sig h => by have h2 : (parseMethodDescriptor (yX3_copyFrom).desc).map (fun d => d.parameters.length) = some 1 := (by decide +kernel); rw [h] at h2; exact (Option.some.inj h2).symm⟩
theorem md_X3_distinguished : et_MD yX3_distinguished cX3_distinguished 4 (some .int) 1 := ⟨et_mt 1317 (by decide +kernel) rfl, et_mt 119 (by decide +kernel) rfl, ⟨by decide, by decide⟩, fun sig h => by have h2 : (parseMethodDescriptor (yX3_distinguished).desc).map (fun d => d.parameters.length) = some 1 := (by decide +kernel); rw [h] at h2; exact (Option.some.inj h2).symm⟩
theorem md_X3_figure : et_MD yX3_figure cX3_figure 2 (some .int) 2 := ⟨et_mt 1336 (by decide +kernel) rfl, et_mt 119 (by decide +kernel) rfl, ⟨by decide, by decide⟩, fun sig h => by have h2 : (parseMethodDescriptor (yX3_figure).desc).map (fun d => d.parameters.length) = some 2 := (by decide +kernel); rw [h] at h2; exact (Option.some.inj h2).symm⟩
theorem md_X3_hear : et_MD yX3_hear cX3_hear 5 (some .boolean) 3 := ⟨et_mt 1300 (by decide +kernel) rfl, et_mt 119 (by decide +kernel) rfl, ⟨by decide, by decide⟩, fun sig h => by have h2 : (parseMethodDescriptor (yX3_hear).desc).map (fun d => d.parameters.length) = some 3 := (by decide +kernel); rw [h] at h2; exact (Option.some.inj h2).symm⟩
theorem md_X3_isKnown : et_MD yX3_isKnown cX3_isKnown 7 (some .boolean) 4 := ⟨et_mt 1340 (by decide +kernel) rfl, et_mt 119 (by decide +kernel) rfl, ⟨by decide, by decide⟩, fun sig h => by have h2 : (parseMethodDescriptor (yX3_isKnown).desc).map (fun d => d.parameters.length) = some 4 := (by decide +kernel); rw [h] at h2; exact (Option.some.inj h2).symm⟩
theorem md_X3_knowing : et_MD yX3_knowing cX3_knowing 6 (some .int) 2 := ⟨et_mt 1313 (by decide +kernel) rfl, et_mt 119 (by decide +kernel) rfl, ⟨by decide, by decide⟩, fun sig h => by have h2 : (parseMethodDescriptor (yX3_knowing).desc).map (fun d => d.parameters.length) = some 2 := (by decide +kernel); rw [h] at h2; exact (Option.some.inj h2).symm⟩
theorem md_X3_open : et_MD yX3_open cX3_open 2 (none) 1 := ⟨et_mt 1288 (by decide +kernel) rfl, et_mt 119 (by decide +kernel) rfl, ⟨by decide, by decide⟩, fun sig h => by have h2 : (parseMethodDescriptor (yX3_open).desc).map (fun d => d.parameters.length) = some 1 := (by decide +kernel); rw [h] at h2; exact (Option.some.inj h2).symm⟩
theorem md_X3_realWorld : et_MD yX3_realWorld cX3_realWorld 3 (some .int) 0 := ⟨et_mt 1326 (by decide +kernel) rfl, et_mt 119 (by decide +kernel) rfl, ⟨by decide, by decide⟩, fun sig h => by have h2 : (parseMethodDescriptor (yX3_realWorld).desc).map (fun d => d.parameters.length) = some 0 := (by decide +kernel); rw [h] at h2; exact (Option.some.inj h2).symm⟩
theorem md_X3_slot : et_MD yX3_slot cX3_slot 2 (some .int) 1 := ⟨et_mt 1309 (by decide +kernel) rfl, et_mt 119 (by decide +kernel) rfl, ⟨by decide, by decide⟩, fun sig h => by have h2 : (parseMethodDescriptor (yX3_slot).desc).map (fun d => d.parameters.length) = some 1 := (by decide +kernel); rw [h] at h2; exact (Option.some.inj h2).symm⟩
theorem md_X3_worldsWith : et_MD yX3_worldsWith cX3_worldsWith 6 (some .int) 2 := ⟨et_mt 1305 (by decide +kernel) rfl, et_mt 119 (by decide +kernel) rfl, ⟨by decide, by decide⟩, fun sig h => by have h2 : (parseMethodDescriptor (yX3_worldsWith).desc).map (fun d => d.parameters.length) = some 2 := (by decide +kernel); rw [h] at h2; exact (Option.some.inj h2).symm⟩
theorem md_X4_atLine : et_MD yX4_atLine cX4_atLine 4 (some .boolean) 1 := ⟨et_mt 973 (by decide +kernel) rfl, et_mt 115 (by decide +kernel) rfl, ⟨by decide, by decide⟩, fun sig h => by have h2 : (parseMethodDescriptor (yX4_atLine).desc).map (fun d => d.parameters.length) = some 1 := (by decide +kernel); rw [h] at h2; exact (Option.some.inj h2).symm⟩
theorem md_X4_changeLine : et_MD yX4_changeLine cX4_changeLine 4 (some .boolean) 1 := ⟨et_mt 912 (by decide +kernel) rfl, et_mt 115 (by decide +kernel) rfl, ⟨by decide, by decide⟩, fun sig h => by have h2 : (parseMethodDescriptor (yX4_changeLine).desc).map (fun d => d.parameters.length) = some 1 := (by decide +kernel); rw [h] at h2; exact (Option.some.inj h2).symm⟩
theorem md_X4_endingLine : et_MD yX4_endingLine cX4_endingLine 4 (some .boolean) 1 := ⟨et_mt 891 (by decide +kernel) rfl, et_mt 115 (by decide +kernel) rfl, ⟨by decide, by decide⟩, fun sig h => by have h2 : (parseMethodDescriptor (yX4_endingLine).desc).map (fun d => d.parameters.length) = some 1 := (by decide +kernel); rw [h] at h2; exact (Option.some.inj h2).symm⟩
theorem md_X4_is : et_MD yX4_is cX4_is 3 (some .boolean) 1 := ⟨et_mt 813 (by decide +kernel) rfl, et_mt 115 (by decide +kernel) rfl, ⟨by decide, by decide⟩, fun sig h => by have h2 : (parseMethodDescriptor (yX4_is).desc).map (fun d => d.parameters.length) = some 1 := (by decide +kernel); rw [h] at h2; exact (Option.some.inj h2).symm⟩
theorem md_X4_isNumber : et_MD yX4_isNumber cX4_isNumber 2 (some .boolean) 1 := ⟨et_mt 899 (by decide +kernel) rfl, et_mt 115 (by decide +kernel) rfl, ⟨by decide, by decide⟩, fun sig h => by have h2 : (parseMethodDescriptor (yX4_isNumber).desc).map (fun d => d.parameters.length) = some 1 := (by decide +kernel); rw [h] at h2; exact (Option.some.inj h2).symm⟩
theorem md_X4_isSemicolon : et_MD yX4_isSemicolon cX4_isSemicolon 1 (some .boolean) 0 := ⟨et_mt 886 (by decide +kernel) rfl, et_mt 115 (by decide +kernel) rfl, ⟨by decide, by decide⟩, fun sig h => by have h2 : (parseMethodDescriptor (yX4_isSemicolon).desc).map (fun d => d.parameters.length) = some 0 := (by decide +kernel); rw [h] at h2; exact (Option.some.inj h2).symm⟩
theorem md_X4_letters : et_MD yX4_letters cX4_letters 3 (some .boolean) 2 := ⟨et_mt 873 (by decide +kernel) rfl, et_mt 115 (by decide +kernel) rfl, ⟨by decide, by decide⟩, fun sig h => by have h2 : (parseMethodDescriptor (yX4_letters).desc).map (fun d => d.parameters.length) = some 2 := (by decide +kernel); rw [h] at h2; exact (Option.some.inj h2).symm⟩
theorem md_X4_nearLine : et_MD yX4_nearLine cX4_nearLine 3 (some .boolean) 1 := ⟨et_mt 934 (by decide +kernel) rfl, et_mt 115 (by decide +kernel) rfl, ⟨by decide, by decide⟩, fun sig h => by have h2 : (parseMethodDescriptor (yX4_nearLine).desc).map (fun d => d.parameters.length) = some 1 := (by decide +kernel); rw [h] at h2; exact (Option.some.inj h2).symm⟩
theorem md_X4_notLine : et_MD yX4_notLine cX4_notLine 2 (some .boolean) 1 := ⟨et_mt 920 (by decide +kernel) rfl, et_mt 115 (by decide +kernel) rfl, ⟨by decide, by decide⟩, fun sig h => by have h2 : (parseMethodDescriptor (yX4_notLine).desc).map (fun d => d.parameters.length) = some 1 := (by decide +kernel); rw [h] at h2; exact (Option.some.inj h2).symm⟩
theorem md_X4_number : et_MD yX4_number cX4_number 2 (some .boolean) 1 := ⟨et_mt 895 (by decide +kernel) rfl, et_mt 115 (by decide +kernel) rfl, ⟨by decide, by decide⟩, fun sig h => by have h2 : (parseMethodDescriptor (yX4_number).desc).map (fun d => d.parameters.length) = some 1 := (by decide +kernel); rw [h] at h2; exact (Option.some.inj h2).symm⟩
theorem md_X4_oneOf : et_MD yX4_oneOf cX4_oneOf 2 (some .boolean) 1 := ⟨et_mt 938 (by decide +kernel) rfl, et_mt 115 (by decide +kernel) rfl, ⟨by decide, by decide⟩, fun sig h => by have h2 : (parseMethodDescriptor (yX4_oneOf).desc).map (fun d => d.parameters.length) = some 1 := (by decide +kernel); rw [h] at h2; exact (Option.some.inj h2).symm⟩
theorem md_X4_personLine : et_MD yX4_personLine cX4_personLine 2 (some .boolean) 1 := ⟨et_mt 943 (by decide +kernel) rfl, et_mt 115 (by decide +kernel) rfl, ⟨by decide, by decide⟩, fun sig h => by have h2 : (parseMethodDescriptor (yX4_personLine).desc).map (fun d => d.parameters.length) = some 1 := (by decide +kernel); rw [h] at h2; exact (Option.some.inj h2).symm⟩
theorem md_X4_placesLine : et_MD yX4_placesLine cX4_placesLine 2 (some .boolean) 1 := ⟨et_mt 929 (by decide +kernel) rfl, et_mt 115 (by decide +kernel) rfl, ⟨by decide, by decide⟩, fun sig h => by have h2 : (parseMethodDescriptor (yX4_placesLine).desc).map (fun d => d.parameters.length) = some 1 := (by decide +kernel); rw [h] at h2; exact (Option.some.inj h2).symm⟩
theorem md_X4_read : et_MD yX4_read cX4_read 5 (some .int) 2 := ⟨et_mt 776 (by decide +kernel) rfl, et_mt 115 (by decide +kernel) rfl, ⟨by decide, by decide⟩, fun sig h => by have h2 : (parseMethodDescriptor (yX4_read).desc).map (fun d => d.parameters.length) = some 2 := (by decide +kernel); rw [h] at h2; exact (Option.some.inj h2).symm⟩
theorem md_X4_readLine : et_MD yX4_readLine cX4_readLine 2 (some .boolean) 1 := ⟨et_mt 808 (by decide +kernel) rfl, et_mt 115 (by decide +kernel) rfl, ⟨by decide, by decide⟩, fun sig h => by have h2 : (parseMethodDescriptor (yX4_readLine).desc).map (fun d => d.parameters.length) = some 1 := (by decide +kernel); rw [h] at h2; exact (Option.some.inj h2).symm⟩
theorem md_X4_refuse : et_MD yX4_refuse cX4_refuse 2 (some .boolean) 1 := ⟨et_mt 869 (by decide +kernel) rfl, et_mt 115 (by decide +kernel) rfl, ⟨by decide, by decide⟩, fun sig h => by have h2 : (parseMethodDescriptor (yX4_refuse).desc).map (fun d => d.parameters.length) = some 1 := (by decide +kernel); rw [h] at h2; exact (Option.some.inj h2).symm⟩
theorem md_X4_ruleGround : et_MD yX4_ruleGround cX4_ruleGround 4 (some .boolean) 3 := ⟨et_mt 967 (by decide +kernel) rfl, et_mt 115 (by decide +kernel) rfl, ⟨by decide, by decide⟩, fun sig h => by have h2 : (parseMethodDescriptor (yX4_ruleGround).desc).map (fun d => d.parameters.length) = some 3 := (by decide +kernel); rw [h] at h2; exact (Option.some.inj h2).symm⟩
theorem md_X4_ruleLine : et_MD yX4_ruleLine cX4_ruleLine 4 (some .boolean) 1 := ⟨et_mt 963 (by decide +kernel) rfl, et_mt 115 (by decide +kernel) rfl, ⟨by decide, by decide⟩, fun sig h => by have h2 : (parseMethodDescriptor (yX4_ruleLine).desc).map (fun d => d.parameters.length) = some 1 := (by decide +kernel); rw [h] at h2; exact (Option.some.inj h2).symm⟩
theorem md_X4_semicolon : et_MD yX4_semicolon cX4_semicolon 1 (some .boolean) 0 := ⟨et_mt 882 (by decide +kernel) rfl, et_mt 115 (by decide +kernel) rfl, ⟨by decide, by decide⟩, fun sig h => by have h2 : (parseMethodDescriptor (yX4_semicolon).desc).map (fun d => d.parameters.length) = some 0 := (by decide +kernel); rw [h] at h2; exact (Option.some.inj h2).symm⟩
theorem md_X4_stemLine : et_MD yX4_stemLine cX4_stemLine 2 (some .boolean) 1 := ⟨et_mt 865 (by decide +kernel) rfl, et_mt 115 (by decide +kernel) rfl, ⟨by decide, by decide⟩, fun sig h => by have h2 : (parseMethodDescriptor (yX4_stemLine).desc).map (fun d => d.parameters.length) = some 1 := (by decide +kernel); rw [h] at h2; exact (Option.some.inj h2).symm⟩
theorem md_X4_step : et_MD yX4_step cX4_step 1 (none) 0 := ⟨et_mt 791 (by decide +kernel) rfl, et_mt 115 (by decide +kernel) rfl, ⟨by decide, by decide⟩, fun sig h => by have h2 : (parseMethodDescriptor (yX4_step).desc).map (fun d => d.parameters.length) = some 0 := (by decide +kernel); rw [h] at h2; exact (Option.some.inj h2).symm⟩
theorem md_X4_takeDigits : et_MD yX4_takeDigits cX4_takeDigits 1 (none) 0 := ⟨et_mt 804 (by decide +kernel) rfl, et_mt 115 (by decide +kernel) rfl, ⟨by decide, by decide⟩, fun sig h => by have h2 : (parseMethodDescriptor (yX4_takeDigits).desc).map (fun d => d.parameters.length) = some 0 := (by decide +kernel); rw [h] at h2; exact (Option.some.inj h2).symm⟩
theorem md_X4_thingLine : et_MD yX4_thingLine cX4_thingLine 3 (some .boolean) 1 := ⟨et_mt 948 (by decide +kernel) rfl, et_mt 115 (by decide +kernel) rfl, ⟨by decide, by decide⟩, fun sig h => by have h2 : (parseMethodDescriptor (yX4_thingLine).desc).map (fun d => d.parameters.length) = some 1 := (by decide +kernel); rw [h] at h2; exact (Option.some.inj h2).symm⟩
theorem md_X4_thingSigns : et_MD yX4_thingSigns cX4_thingSigns 3 (some .boolean) 2 := ⟨et_mt 956 (by decide +kernel) rfl, et_mt 115 (by decide +kernel) rfl, ⟨by decide, by decide⟩, fun sig h => by have h2 : (parseMethodDescriptor (yX4_thingSigns).desc).map (fun d => d.parameters.length) = some 2 := (by decide +kernel); rw [h] at h2; exact (Option.some.inj h2).symm⟩
theorem md_X4_weighLine : et_MD yX4_weighLine cX4_weighLine 3 (some .boolean) 1 := ⟨et_mt 978 (by decide +kernel) rfl, et_mt 115 (by decide +kernel) rfl, ⟨by decide, by decide⟩, fun sig h => by have h2 : (parseMethodDescriptor (yX4_weighLine).desc).map (fun d => d.parameters.length) = some 1 := (by decide +kernel); rw [h] at h2; exact (Option.some.inj h2).symm⟩
theorem md_X5_add : et_MD yX5_add cX5_add 5 (none) 3 := ⟨et_mt 1093 (by decide +kernel) rfl, et_mt 114 (by decide +kernel) rfl, ⟨by decide, by decide⟩, fun sig h => by have h2 : (parseMethodDescriptor (yX5_add).desc).map (fun d => d.parameters.length) = some 3 := (by decide +kernel); rw [h] at h2; exact (Option.some.inj h2).symm⟩
theorem md_X5_changeSlot : et_MD yX5_changeSlot cX5_changeSlot 2 (some .int) 2 := ⟨et_mt 915 (by decide +kernel) rfl, et_mt 114 (by decide +kernel) rfl, ⟨by decide, by decide⟩, fun sig h => by have h2 : (parseMethodDescriptor (yX5_changeSlot).desc).map (fun d => d.parameters.length) = some 2 := (by decide +kernel); rw [h] at h2; exact (Option.some.inj h2).symm⟩
theorem md_X5_clear : et_MD yX5_clear cX5_clear 1 (none) 0 := ⟨et_mt 785 (by decide +kernel) rfl, et_mt 114 (by decide +kernel) rfl, ⟨by decide, by decide⟩, fun sig h => by have h2 : (parseMethodDescriptor (yX5_clear).desc).map (fun d => d.parameters.length) = some 0 := (by decide +kernel); rw [h] at h2; exact (Option.some.inj h2).symm⟩
theorem md_X5_copyFrom : et_MD yX5_copyFrom cX5_copyFrom 2 (none) 1 := ⟨et_mt 990 (by decide +kernel) rfl, et_mt 114 (by decide +kernel) rfl, ⟨by decide, by decide⟩, fun sig h => by have h2 : (parseMethodDescriptor (yX5_copyFrom).desc).map (fun d => d.parameters.length) = some 1 := (by decide +kernel); rw [h] at h2; exact (Option.some.inj h2).symm⟩
theorem md_X5_endingSlot : et_MD yX5_endingSlot cX5_endingSlot 2 (some .int) 2 := ⟨et_mt 906 (by decide +kernel) rfl, et_mt 114 (by decide +kernel) rfl, ⟨by decide, by decide⟩, fun sig h => by have h2 : (parseMethodDescriptor (yX5_endingSlot).desc).map (fun d => d.parameters.length) = some 2 := (by decide +kernel); rw [h] at h2; exact (Option.some.inj h2).symm⟩
theorem md_X5_firstChange : et_MD yX5_firstChange cX5_firstChange 5 (some .int) 2 := ⟨et_mt 1081 (by decide +kernel) rfl, et_mt 114 (by decide +kernel) rfl, ⟨by decide, by decide⟩, fun sig h => by have h2 : (parseMethodDescriptor (yX5_firstChange).desc).map (fun d => d.parameters.length) = some 2 := (by decide +kernel); rw [h] at h2; exact (Option.some.inj h2).symm⟩
theorem md_X5_hasEnding : et_MD yX5_hasEnding cX5_hasEnding 3 (some .boolean) 2 := ⟨et_mt 903 (by decide +kernel) rfl, et_mt 114 (by decide +kernel) rfl, ⟨by decide, by decide⟩, fun sig h => by have h2 : (parseMethodDescriptor (yX5_hasEnding).desc).map (fun d => d.parameters.length) = some 2 := (by decide +kernel); rw [h] at h2; exact (Option.some.inj h2).symm⟩
theorem md_X5_hasNot : et_MD yX5_hasNot cX5_hasNot 1 (some .boolean) 0 := ⟨et_mt 924 (by decide +kernel) rfl, et_mt 114 (by decide +kernel) rfl, ⟨by decide, by decide⟩, fun sig h => by have h2 : (parseMethodDescriptor (yX5_hasNot).desc).map (fun d => d.parameters.length) = some 0 := (by decide +kernel); rw [h] at h2; exact (Option.some.inj h2).symm⟩
theorem md_X5_hasStem : et_MD yX5_hasStem cX5_hasStem 2 (some .boolean) 1 := ⟨et_mt 1073 (by decide +kernel) rfl, et_mt 114 (by decide +kernel) rfl, ⟨by decide, by decide⟩, fun sig h => by have h2 : (parseMethodDescriptor (yX5_hasStem).desc).map (fun d => d.parameters.length) = some 1 := (by decide +kernel); rw [h] at h2; exact (Option.some.inj h2).symm⟩
theorem md_X5_isMade : et_MD yX5_isMade cX5_isMade 4 (some .boolean) 3 := ⟨et_mt 1109 (by decide +kernel) rfl, et_mt 114 (by decide +kernel) rfl, ⟨by decide, by decide⟩, fun sig h => by have h2 : (parseMethodDescriptor (yX5_isMade).desc).map (fun d => d.parameters.length) = some 3 := (by decide +kernel); rw [h] at h2; exact (Option.some.inj h2).symm⟩
theorem md_X5_isNot : et_MD yX5_isNot cX5_isNot 4 (some .boolean) 3 := ⟨et_mt 1157 (by decide +kernel) rfl, et_mt 114 (by decide +kernel) rfl, ⟨by decide, by decide⟩, fun sig h => by have h2 : (parseMethodDescriptor (yX5_isNot).desc).map (fun d => d.parameters.length) = some 3 := (by decide +kernel); rw [h] at h2; exact (Option.some.inj h2).symm⟩
theorem md_X5_make : et_MD yX5_make cX5_make 7 (some .int) 3 := ⟨et_mt 1077 (by decide +kernel) rfl, et_mt 114 (by decide +kernel) rfl, ⟨by decide, by decide⟩, fun sig h => by have h2 : (parseMethodDescriptor (yX5_make).desc).map (fun d => d.parameters.length) = some 3 := (by decide +kernel); rw [h] at h2; exact (Option.some.inj h2).symm⟩
theorem md_X5_put : et_MD yX5_put cX5_put 5 (none) 4 := ⟨et_mt 877 (by decide +kernel) rfl, et_mt 114 (by decide +kernel) rfl, ⟨by decide, by decide⟩, fun sig h => by have h2 : (parseMethodDescriptor (yX5_put).desc).map (fun d => d.parameters.length) = some 4 := (by decide +kernel); rw [h] at h2; exact (Option.some.inj h2).symm⟩
theorem md_X5_standsAt : et_MD yX5_standsAt cX5_standsAt 4 (some .boolean) 3 := ⟨et_mt 1086 (by decide +kernel) rfl, et_mt 114 (by decide +kernel) rfl, ⟨by decide, by decide⟩, fun sig h => by have h2 : (parseMethodDescriptor (yX5_standsAt).desc).map (fun d => d.parameters.length) = some 3 := (by decide +kernel); rw [h] at h2; exact (Option.some.inj h2).symm⟩
theorem md_X6_clear : et_MD yX6_clear cX6_clear 1 (none) 0 := ⟨et_mt 781 (by decide +kernel) rfl, et_mt 113 (by decide +kernel) rfl, ⟨by decide, by decide⟩, fun sig h => by have h2 : (parseMethodDescriptor (yX6_clear).desc).map (fun d => d.parameters.length) = some 0 := (by decide +kernel); rw [h] at h2; exact (Option.some.inj h2).symm⟩
theorem md_X6_copyFrom : et_MD yX6_copyFrom cX6_copyFrom 2 (none) 1 := ⟨et_mt 986 (by decide +kernel) rfl, et_mt 113 (by decide +kernel) rfl, ⟨by decide, by decide⟩, fun sig h => by have h2 : (parseMethodDescriptor (yX6_copyFrom).desc).map (fun d => d.parameters.length) = some 1 := (by decide +kernel); rw [h] at h2; exact (Option.some.inj h2).symm⟩
theorem md_X6_fillHours : et_MD yX6_fillHours cX6_fillHours 5 (none) 0 := ⟨et_mt 982 (by decide +kernel) rfl, et_mt 113 (by decide +kernel) rfl, ⟨by decide, by decide⟩, fun sig h => by have h2 : (parseMethodDescriptor (yX6_fillHours).desc).map (fun d => d.parameters.length) = some 0 := (by decide +kernel); rw [h] at h2; exact (Option.some.inj h2).symm⟩
theorem md_X6_followers : et_MD yX6_followers cX6_followers 4 (some .int) 1 := ⟨et_mt 661 (by decide +kernel) rfl, et_mt 113 (by decide +kernel) rfl, ⟨by decide, by decide⟩, fun sig h => by have h2 : (parseMethodDescriptor (yX6_followers).desc).map (fun d => d.parameters.length) = some 1 := (by decide +kernel); rw [h] at h2; exact (Option.some.inj h2).symm⟩
theorem md_X6_follows : et_MD yX6_follows cX6_follows 4 (some .boolean) 3 := ⟨et_mt 646 (by decide +kernel) rfl, et_mt 113 (by decide +kernel) rfl, ⟨by decide, by decide⟩, fun sig h => by have h2 : (parseMethodDescriptor (yX6_follows).desc).map (fun d => d.parameters.length) = some 3 := (by decide +kernel); rw [h] at h2; exact (Option.some.inj h2).symm⟩
theorem md_X6_hasPerson : et_MD yX6_hasPerson cX6_hasPerson 2 (some .boolean) 1 := ⟨et_mt 1038 (by decide +kernel) rfl, et_mt 113 (by decide +kernel) rfl, ⟨by decide, by decide⟩, fun sig h => by have h2 : (parseMethodDescriptor (yX6_hasPerson).desc).map (fun d => d.parameters.length) = some 1 := (by decide +kernel); rw [h] at h2; exact (Option.some.inj h2).symm⟩
theorem md_X6_hasThing : et_MD yX6_hasThing cX6_hasThing 2 (some .boolean) 1 := ⟨et_mt 1061 (by decide +kernel) rfl, et_mt 113 (by decide +kernel) rfl, ⟨by decide, by decide⟩, fun sig h => by have h2 : (parseMethodDescriptor (yX6_hasThing).desc).map (fun d => d.parameters.length) = some 1 := (by decide +kernel); rw [h] at h2; exact (Option.some.inj h2).symm⟩
theorem md_X6_isHour : et_MD yX6_isHour cX6_isHour 1 (some .boolean) 1 := ⟨et_mt 1045 (by decide +kernel) rfl, et_mt 113 (by decide +kernel) rfl, ⟨by decide, by decide⟩, fun sig h => by have h2 : (parseMethodDescriptor (yX6_isHour).desc).map (fun d => d.parameters.length) = some 1 := (by decide +kernel); rw [h] at h2; exact (Option.some.inj h2).symm⟩
theorem md_X6_isNear : et_MD yX6_isNear cX6_isNear 3 (some .boolean) 2 := ⟨et_mt 612 (by decide +kernel) rfl, et_mt 113 (by decide +kernel) rfl, ⟨by decide, by decide⟩, fun sig h => by have h2 : (parseMethodDescriptor (yX6_isNear).desc).map (fun d => d.parameters.length) = some 2 := (by decide +kernel); rw [h] at h2; exact (Option.some.inj h2).symm⟩
theorem md_X6_isWorkedOut : et_MD yX6_isWorkedOut cX6_isWorkedOut 4 (some .boolean) 2 := ⟨et_mt 642 (by decide +kernel) rfl, et_mt 113 (by decide +kernel) rfl, ⟨by decide, by decide⟩, fun sig h => by have h2 : (parseMethodDescriptor (yX6_isWorkedOut).desc).map (fun d => d.parameters.length) = some 2 := (by decide +kernel); rw [h] at h2; exact (Option.some.inj h2).symm⟩
theorem md_X6_ownHows : et_MD yX6_ownHows cX6_ownHows 6 (some .int) 4 := ⟨et_mt 600 (by decide +kernel) rfl, et_mt 113 (by decide +kernel) rfl, ⟨by decide, by decide⟩, fun sig h => by have h2 : (parseMethodDescriptor (yX6_ownHows).desc).map (fun d => d.parameters.length) = some 4 := (by decide +kernel); rw [h] at h2; exact (Option.some.inj h2).symm⟩
theorem md_X6_ownThings : et_MD yX6_ownThings cX6_ownThings 5 (some .int) 2 := ⟨et_mt 596 (by decide +kernel) rfl, et_mt 113 (by decide +kernel) rfl, ⟨by decide, by decide⟩, fun sig h => by have h2 : (parseMethodDescriptor (yX6_ownThings).desc).map (fun d => d.parameters.length) = some 2 := (by decide +kernel); rw [h] at h2; exact (Option.some.inj h2).symm⟩
theorem md_X6_placeAt : et_MD yX6_placeAt cX6_placeAt 3 (some .int) 2 := ⟨et_mt 592 (by decide +kernel) rfl, et_mt 113 (by decide +kernel) rfl, ⟨by decide, by decide⟩, fun sig h => by have h2 : (parseMethodDescriptor (yX6_placeAt).desc).map (fun d => d.parameters.length) = some 2 := (by decide +kernel); rw [h] at h2; exact (Option.some.inj h2).symm⟩
theorem md_X6_thingOfStem : et_MD yX6_thingOfStem cX6_thingOfStem 3 (some .int) 1 := ⟨et_mt 952 (by decide +kernel) rfl, et_mt 113 (by decide +kernel) rfl, ⟨by decide, by decide⟩, fun sig h => by have h2 : (parseMethodDescriptor (yX6_thingOfStem).desc).map (fun d => d.parameters.length) = some 1 := (by decide +kernel); rw [h] at h2; exact (Option.some.inj h2).symm⟩
theorem md_X6_wasThere : et_MD yX6_wasThere cX6_wasThere 3 (some .boolean) 2 := ⟨et_mt 604 (by decide +kernel) rfl, et_mt 113 (by decide +kernel) rfl, ⟨by decide, by decide⟩, fun sig h => by have h2 : (parseMethodDescriptor (yX6_wasThere).desc).map (fun d => d.parameters.length) = some 2 := (by decide +kernel); rw [h] at h2; exact (Option.some.inj h2).symm⟩
theorem md_X6_weighed : et_MD yX6_weighed cX6_weighed 11 (some .int) 3 := ⟨et_mt 1275 (by decide +kernel) rfl, et_mt 113 (by decide +kernel) rfl, ⟨by decide, by decide⟩, fun sig h => by have h2 : (parseMethodDescriptor (yX6_weighed).desc).map (fun d => d.parameters.length) = some 3 := (by decide +kernel); rw [h] at h2; exact (Option.some.inj h2).symm⟩
theorem md_X7_isClear : et_MD yX7_isClear cX7_isClear 5 (some .boolean) 2 := ⟨et_mt 1142 (by decide +kernel) rfl, et_mt 117 (by decide +kernel) rfl, ⟨by decide, by decide⟩, fun sig h => by have h2 : (parseMethodDescriptor (yX7_isClear).desc).map (fun d => d.parameters.length) = some 2 := (by decide +kernel); rw [h] at h2; exact (Option.some.inj h2).symm⟩
theorem md_X7_isOneWay : et_MD yX7_isOneWay cX7_isOneWay 3 (some .boolean) 1 := ⟨et_mt 1163 (by decide +kernel) rfl, et_mt 117 (by decide +kernel) rfl, ⟨by decide, by decide⟩, fun sig h => by have h2 : (parseMethodDescriptor (yX7_isOneWay).desc).map (fun d => d.parameters.length) = some 1 := (by decide +kernel); rw [h] at h2; exact (Option.some.inj h2).symm⟩
theorem md_X7_skipBlanks : et_MD yX7_skipBlanks cX7_skipBlanks 1 (none) 0 := ⟨et_mt 1147 (by decide +kernel) rfl, et_mt 117 (by decide +kernel) rfl, ⟨by decide, by decide⟩, fun sig h => by have h2 : (parseMethodDescriptor (yX7_skipBlanks).desc).map (fun d => d.parameters.length) = some 0 := (by decide +kernel); rw [h] at h2; exact (Option.some.inj h2).symm⟩
theorem md_X7_takeWord : et_MD yX7_takeWord cX7_takeWord 2 (some .int) 0 := ⟨et_mt 1152 (by decide +kernel) rfl, et_mt 117 (by decide +kernel) rfl, ⟨by decide, by decide⟩, fun sig h => by have h2 : (parseMethodDescriptor (yX7_takeWord).desc).map (fun d => d.parameters.length) = some 0 := (by decide +kernel); rw [h] at h2; exact (Option.some.inj h2).symm⟩
theorem md_X8_find : et_MD yX8_find cX8_find 8 (none) 4 := ⟨et_mt 1104 (by decide +kernel) rfl, et_mt 116 (by decide +kernel) rfl, ⟨by decide, by decide⟩, fun sig h => by have h2 : (parseMethodDescriptor (yX8_find).desc).map (fun d => d.parameters.length) = some 4 := (by decide +kernel); rw [h] at h2; exact (Option.some.inj h2).symm⟩
theorem md_X8_keep : et_MD yX8_keep cX8_keep 2 (none) 1 := ⟨et_mt 1113 (by decide +kernel) rfl, et_mt 116 (by decide +kernel) rfl, ⟨by decide, by decide⟩, fun sig h => by have h2 : (parseMethodDescriptor (yX8_keep).desc).map (fun d => d.parameters.length) = some 1 := (by decide +kernel); rw [h] at h2; exact (Option.some.inj h2).symm⟩
theorem md_X9_areSame : et_MD yX9_areSame cX9_areSame 6 (some .boolean) 5 := ⟨et_mt 1089 (by decide +kernel) rfl, et_mt 112 (by decide +kernel) rfl, ⟨by decide, by decide⟩, fun sig h => by have h2 : (parseMethodDescriptor (yX9_areSame).desc).map (fun d => d.parameters.length) = some 5 := (by decide +kernel); rw [h] at h2; exact (Option.some.inj h2).symm⟩
theorem md_X9_hasBit : et_MD yX9_hasBit cX9_hasBit 2 (some .boolean) 2 := ⟨et_mt 608 (by decide +kernel) rfl, et_mt 112 (by decide +kernel) rfl, ⟨by decide, by decide⟩, fun sig h => by have h2 : (parseMethodDescriptor (yX9_hasBit).desc).map (fun d => d.parameters.length) = some 2 := (by decide +kernel); rw [h] at h2; exact (Option.some.inj h2).symm⟩
theorem md_X9_isBlank : et_MD yX9_isBlank cX9_isBlank 1 (some .boolean) 1 := ⟨et_mt 794 (by decide +kernel) rfl, et_mt 112 (by decide +kernel) rfl, ⟨by decide, by decide⟩, fun sig h => by have h2 : (parseMethodDescriptor (yX9_isBlank).desc).map (fun d => d.parameters.length) = some 1 := (by decide +kernel); rw [h] at h2; exact (Option.some.inj h2).symm⟩
theorem md_X9_isDigit : et_MD yX9_isDigit cX9_isDigit 1 (some .boolean) 1 := ⟨et_mt 800 (by decide +kernel) rfl, et_mt 112 (by decide +kernel) rfl, ⟨by decide, by decide⟩, fun sig h => by have h2 : (parseMethodDescriptor (yX9_isDigit).desc).map (fun d => d.parameters.length) = some 1 := (by decide +kernel); rw [h] at h2; exact (Option.some.inj h2).symm⟩
theorem md_X9_isLetter : et_MD yX9_isLetter cX9_isLetter 1 (some .boolean) 1 := ⟨et_mt 797 (by decide +kernel) rfl, et_mt 112 (by decide +kernel) rfl, ⟨by decide, by decide⟩, fun sig h => by have h2 : (parseMethodDescriptor (yX9_isLetter).desc).map (fun d => d.parameters.length) = some 1 := (by decide +kernel); rw [h] at h2; exact (Option.some.inj h2).symm⟩
theorem md_X9_needHour : et_MD yX9_needHour cX9_needHour 2 (none) 1 := ⟨et_mt 1042 (by decide +kernel) rfl, et_mt 112 (by decide +kernel) rfl, ⟨by decide, by decide⟩, fun sig h => by have h2 : (parseMethodDescriptor (yX9_needHour).desc).map (fun d => d.parameters.length) = some 1 := (by decide +kernel); rw [h] at h2; exact (Option.some.inj h2).symm⟩
theorem md_X9_needPerson : et_MD yX9_needPerson cX9_needPerson 2 (none) 1 := ⟨et_mt 1034 (by decide +kernel) rfl, et_mt 112 (by decide +kernel) rfl, ⟨by decide, by decide⟩, fun sig h => by have h2 : (parseMethodDescriptor (yX9_needPerson).desc).map (fun d => d.parameters.length) = some 1 := (by decide +kernel); rw [h] at h2; exact (Option.some.inj h2).symm⟩
theorem md_X9_needThing : et_MD yX9_needThing cX9_needThing 2 (none) 1 := ⟨et_mt 1057 (by decide +kernel) rfl, et_mt 112 (by decide +kernel) rfl, ⟨by decide, by decide⟩, fun sig h => by have h2 : (parseMethodDescriptor (yX9_needThing).desc).map (fun d => d.parameters.length) = some 1 := (by decide +kernel); rw [h] at h2; exact (Option.some.inj h2).symm⟩
theorem md_X9_putBytes : et_MD yX9_putBytes cX9_putBytes 3 (none) 1 := ⟨et_mt 553 (by decide +kernel) rfl, et_mt 112 (by decide +kernel) rfl, ⟨by decide, by decide⟩, fun sig h => by have h2 : (parseMethodDescriptor (yX9_putBytes).desc).map (fun d => d.parameters.length) = some 1 := (by decide +kernel); rw [h] at h2; exact (Option.some.inj h2).symm⟩
theorem md_X9_takeTape : et_MD yX9_takeTape cX9_takeTape 2 (none) 1 := ⟨et_mt 710 (by decide +kernel) rfl, et_mt 112 (by decide +kernel) rfl, ⟨by decide, by decide⟩, fun sig h => by have h2 : (parseMethodDescriptor (yX9_takeTape).desc).map (fun d => d.parameters.length) = some 1 := (by decide +kernel); rw [h] at h2; exact (Option.some.inj h2).symm⟩
theorem mi_X0_chainOf : et_MI yX0_chainOf 0 := ⟨et_mt 1173 (by decide +kernel) rfl, et_mt 1174 (by decide +kernel) rfl, TX0, 17, rfl⟩
theorem mi_X0_eyesNow : et_MI yX0_eyesNow 0 := ⟨et_mt 1210 (by decide +kernel) rfl, et_mt 50 (by decide +kernel) rfl, TX0, 17, rfl⟩
theorem mi_X0_eyesOf : et_MI yX0_eyesOf 0 := ⟨et_mt 1184 (by decide +kernel) rfl, et_mt 1185 (by decide +kernel) rfl, TX0, 17, rfl⟩
theorem mi_X0_eyesOfAll : et_MI yX0_eyesOfAll 0 := ⟨et_mt 1206 (by decide +kernel) rfl, et_mt 49 (by decide +kernel) rfl, TX0, 17, rfl⟩
theorem mi_X0_fewestSilent : et_MI yX0_fewestSilent 0 := ⟨et_mt 1254 (by decide +kernel) rfl, et_mt 1255 (by decide +kernel) rfl, TX0, 17, rfl⟩
theorem mi_X0_forget : et_MI yX0_forget 0 := ⟨et_mt 563 (by decide +kernel) rfl, et_mt 564 (by decide +kernel) rfl, TX0, 17, rfl⟩
theorem mi_X0_heardBy : et_MI yX0_heardBy 0 := ⟨et_mt 583 (by decide +kernel) rfl, et_mt 1 (by decide +kernel) rfl, TX0, 17, rfl⟩
theorem mi_X0_howsFor : et_MI yX0_howsFor 0 := ⟨et_mt 1220 (by decide +kernel) rfl, et_mt 1221 (by decide +kernel) rfl, TX0, 17, rfl⟩
theorem mi_X0_isTold : et_MI yX0_isTold 0 := ⟨et_mt 1261 (by decide +kernel) rfl, et_mt 51 (by decide +kernel) rfl, TX0, 17, rfl⟩
theorem mi_X0_lay : et_MI yX0_lay 0 := ⟨et_mt 575 (by decide +kernel) rfl, et_mt 576 (by decide +kernel) rfl, TX0, 17, rfl⟩
theorem mi_X0_openEyes : et_MI yX0_openEyes 0 := ⟨et_mt 1189 (by decide +kernel) rfl, et_mt 45 (by decide +kernel) rfl, TX0, 17, rfl⟩
theorem mi_X0_openThingEyes : et_MI yX0_openThingEyes 0 := ⟨et_mt 1193 (by decide +kernel) rfl, et_mt 46 (by decide +kernel) rfl, TX0, 17, rfl⟩
theorem mi_X0_rings : et_MI yX0_rings 0 := ⟨et_mt 1235 (by decide +kernel) rfl, et_mt 1236 (by decide +kernel) rfl, TX0, 17, rfl⟩
theorem mi_X0_rise : et_MI yX0_rise 0 := ⟨et_mt 627 (by decide +kernel) rfl, et_mt 628 (by decide +kernel) rfl, TX0, 17, rfl⟩
theorem mi_X0_rising : et_MI yX0_rising 0 := ⟨et_mt 632 (by decide +kernel) rfl, et_mt 3 (by decide +kernel) rfl, TX0, 17, rfl⟩
theorem mi_X0_ruleEyes : et_MI yX0_ruleEyes 0 := ⟨et_mt 1197 (by decide +kernel) rfl, et_mt 47 (by decide +kernel) rfl, TX0, 17, rfl⟩
theorem mi_X0_settle : et_MI yX0_settle 0 := ⟨et_mt 1178 (by decide +kernel) rfl, et_mt 44 (by decide +kernel) rfl, TX0, 17, rfl⟩
theorem mi_X0_standing : et_MI yX0_standing 0 := ⟨et_mt 663 (by decide +kernel) rfl, et_mt 664 (by decide +kernel) rfl, TX0, 17, rfl⟩
theorem mi_X0_standingHows : et_MI yX0_standingHows 0 := ⟨et_mt 637 (by decide +kernel) rfl, et_mt 4 (by decide +kernel) rfl, TX0, 17, rfl⟩
theorem mi_X0_tailEyes : et_MI yX0_tailEyes 0 := ⟨et_mt 1202 (by decide +kernel) rfl, et_mt 48 (by decide +kernel) rfl, TX0, 17, rfl⟩
theorem mi_X0_unheld : et_MI yX0_unheld 0 := ⟨et_mt 1231 (by decide +kernel) rfl, et_mt 1232 (by decide +kernel) rfl, TX0, 17, rfl⟩
theorem mi_X0_widenAll : et_MI yX0_widenAll 0 := ⟨et_mt 652 (by decide +kernel) rfl, et_mt 5 (by decide +kernel) rfl, TX0, 17, rfl⟩
theorem mi_X0_widened : et_MI yX0_widened 0 := ⟨et_mt 656 (by decide +kernel) rfl, et_mt 6 (by decide +kernel) rfl, TX0, 17, rfl⟩
theorem mi_X0_widest : et_MI yX0_widest 0 := ⟨et_mt 668 (by decide +kernel) rfl, et_mt 7 (by decide +kernel) rfl, TX0, 17, rfl⟩
theorem mi_X10_adds : et_MI yX10_adds 10 := ⟨et_mt 1723 (by decide +kernel) rfl, et_mt 83 (by decide +kernel) rfl, TX10, 74, rfl⟩
theorem mi_X10_adds5 : et_MI yX10_adds5 10 := ⟨et_mt 1747 (by decide +kernel) rfl, et_mt 86 (by decide +kernel) rfl, TX10, 74, rfl⟩
theorem mi_X10_all : et_MI yX10_all 10 := ⟨et_mt 1787 (by decide +kernel) rfl, et_mt 93 (by decide +kernel) rfl, TX10, 74, rfl⟩
theorem mi_X10_among : et_MI yX10_among 10 := ⟨et_mt 1649 (by decide +kernel) rfl, et_mt 71 (by decide +kernel) rfl, TX10, 74, rfl⟩
theorem mi_X10_amongHere : et_MI yX10_amongHere 10 := ⟨et_mt 1653 (by decide +kernel) rfl, et_mt 72 (by decide +kernel) rfl, TX10, 74, rfl⟩
theorem mi_X10_asks : et_MI yX10_asks 10 := ⟨et_mt 1779 (by decide +kernel) rfl, et_mt 91 (by decide +kernel) rfl, TX10, 74, rfl⟩
theorem mi_X10_begins : et_MI yX10_begins 10 := ⟨et_mt 1719 (by decide +kernel) rfl, et_mt 82 (by decide +kernel) rfl, TX10, 74, rfl⟩
theorem mi_X10_blanks : et_MI yX10_blanks 10 := ⟨et_mt 1755 (by decide +kernel) rfl, et_mt 87 (by decide +kernel) rfl, TX10, 74, rfl⟩
theorem mi_X10_byHow : et_MI yX10_byHow 10 := ⟨et_mt 1799 (by decide +kernel) rfl, et_mt 96 (by decide +kernel) rfl, TX10, 74, rfl⟩
theorem mi_X10_byRules : et_MI yX10_byRules 10 := ⟨et_mt 1811 (by decide +kernel) rfl, et_mt 99 (by decide +kernel) rfl, TX10, 74, rfl⟩
theorem mi_X10_byTold : et_MI yX10_byTold 10 := ⟨et_mt 1803 (by decide +kernel) rfl, et_mt 97 (by decide +kernel) rfl, TX10, 74, rfl⟩
theorem mi_X10_byteAt : et_MI yX10_byteAt 10 := ⟨et_mt 1601 (by decide +kernel) rfl, et_mt 62 (by decide +kernel) rfl, TX10, 74, rfl⟩
theorem mi_X10_copies : et_MI yX10_copies 10 := ⟨et_mt 1673 (by decide +kernel) rfl, et_mt 77 (by decide +kernel) rfl, TX10, 74, rfl⟩
theorem mi_X10_empties : et_MI yX10_empties 10 := ⟨et_mt 1593 (by decide +kernel) rfl, et_mt 60 (by decide +kernel) rfl, TX10, 74, rfl⟩
theorem mi_X10_ends : et_MI yX10_ends 10 := ⟨et_mt 1715 (by decide +kernel) rfl, et_mt 81 (by decide +kernel) rfl, TX10, 74, rfl⟩
theorem mi_X10_eyesBy : et_MI yX10_eyesBy 10 := ⟨et_mt 1823 (by decide +kernel) rfl, et_mt 102 (by decide +kernel) rfl, TX10, 74, rfl⟩
theorem mi_X10_faults : et_MI yX10_faults 10 := ⟨et_mt 1629 (by decide +kernel) rfl, et_mt 66 (by decide +kernel) rfl, TX10, 74, rfl⟩
theorem mi_X10_finds : et_MI yX10_finds 10 := ⟨et_mt 1731 (by decide +kernel) rfl, et_mt 84 (by decide +kernel) rfl, TX10, 74, rfl⟩
theorem mi_X10_holding : et_MI yX10_holding 10 := ⟨et_mt 1843 (by decide +kernel) rfl, et_mt 105 (by decide +kernel) rfl, TX10, 74, rfl⟩
theorem mi_X10_is : et_MI yX10_is 10 := ⟨et_mt 1619 (by decide +kernel) rfl, et_mt 65 (by decide +kernel) rfl, TX10, 74, rfl⟩
theorem mi_X10_isBy : et_MI yX10_isBy 10 := ⟨et_mt 1815 (by decide +kernel) rfl, et_mt 100 (by decide +kernel) rfl, TX10, 74, rfl⟩
theorem mi_X10_isGood : et_MI yX10_isGood 10 := ⟨et_mt 1611 (by decide +kernel) rfl, et_mt 63 (by decide +kernel) rfl, TX10, 74, rfl⟩
theorem mi_X10_isNot : et_MI yX10_isNot 10 := ⟨et_mt 1763 (by decide +kernel) rfl, et_mt 89 (by decide +kernel) rfl, TX10, 74, rfl⟩
theorem mi_X10_isThing : et_MI yX10_isThing 10 := ⟨et_mt 1703 (by decide +kernel) rfl, et_mt 79 (by decide +kernel) rfl, TX10, 74, rfl⟩
theorem mi_X10_isTold : et_MI yX10_isTold 10 := ⟨et_mt 1807 (by decide +kernel) rfl, et_mt 98 (by decide +kernel) rfl, TX10, 74, rfl⟩
theorem mi_X10_isWho : et_MI yX10_isWho 10 := ⟨et_mt 1695 (by decide +kernel) rfl, et_mt 78 (by decide +kernel) rfl, TX10, 74, rfl⟩
theorem mi_X10_knows : et_MI yX10_knows 10 := ⟨et_mt 1881 (by decide +kernel) rfl, et_mt 108 (by decide +kernel) rfl, TX10, 74, rfl⟩
theorem mi_X10_lays : et_MI yX10_lays 10 := ⟨et_mt 1581 (by decide +kernel) rfl, et_mt 58 (by decide +kernel) rfl, TX10, 74, rfl⟩
theorem mi_X10_least : et_MI yX10_least 10 := ⟨et_mt 1795 (by decide +kernel) rfl, et_mt 95 (by decide +kernel) rfl, TX10, 74, rfl⟩
theorem mi_X10_lettersTo : et_MI yX10_lettersTo 10 := ⟨et_mt 1759 (by decide +kernel) rfl, et_mt 88 (by decide +kernel) rfl, TX10, 74, rfl⟩
theorem mi_X10_line : et_MI yX10_line 10 := ⟨et_mt 1615 (by decide +kernel) rfl, et_mt 64 (by decide +kernel) rfl, TX10, 74, rfl⟩
theorem mi_X10_looks : et_MI yX10_looks 10 := ⟨et_mt 1819 (by decide +kernel) rfl, et_mt 101 (by decide +kernel) rfl, TX10, 74, rfl⟩
theorem mi_X10_need : et_MI yX10_need 10 := ⟨et_mt 1669 (by decide +kernel) rfl, et_mt 76 (by decide +kernel) rfl, TX10, 74, rfl⟩
theorem mi_X10_number : et_MI yX10_number 10 := ⟨et_mt 1641 (by decide +kernel) rfl, et_mt 69 (by decide +kernel) rfl, TX10, 74, rfl⟩
theorem mi_X10_of : et_MI yX10_of 10 := ⟨et_mt 1775 (by decide +kernel) rfl, et_mt 90 (by decide +kernel) rfl, TX10, 74, rfl⟩
theorem mi_X10_pairAt : et_MI yX10_pairAt 10 := ⟨et_mt 1783 (by decide +kernel) rfl, et_mt 92 (by decide +kernel) rfl, TX10, 74, rfl⟩
theorem mi_X10_placeOf : et_MI yX10_placeOf 10 := ⟨et_mt 1873 (by decide +kernel) rfl, et_mt 106 (by decide +kernel) rfl, TX10, 74, rfl⟩
theorem mi_X10_readsAt : et_MI yX10_readsAt 10 := ⟨et_mt 1665 (by decide +kernel) rfl, et_mt 75 (by decide +kernel) rfl, TX10, 74, rfl⟩
theorem mi_X10_readsEnding : et_MI yX10_readsEnding 10 := ⟨et_mt 1637 (by decide +kernel) rfl, et_mt 68 (by decide +kernel) rfl, TX10, 74, rfl⟩
theorem mi_X10_readsNear : et_MI yX10_readsNear 10 := ⟨et_mt 1645 (by decide +kernel) rfl, et_mt 70 (by decide +kernel) rfl, TX10, 74, rfl⟩
theorem mi_X10_readsRule : et_MI yX10_readsRule 10 := ⟨et_mt 1661 (by decide +kernel) rfl, et_mt 74 (by decide +kernel) rfl, TX10, 74, rfl⟩
theorem mi_X10_readsThing : et_MI yX10_readsThing 10 := ⟨et_mt 1657 (by decide +kernel) rfl, et_mt 73 (by decide +kernel) rfl, TX10, 74, rfl⟩
theorem mi_X10_real : et_MI yX10_real 10 := ⟨et_mt 1892 (by decide +kernel) rfl, et_mt 110 (by decide +kernel) rfl, TX10, 74, rfl⟩
theorem mi_X10_reckons : et_MI yX10_reckons 10 := ⟨et_mt 1791 (by decide +kernel) rfl, et_mt 94 (by decide +kernel) rfl, TX10, 74, rfl⟩
theorem mi_X10_refuses : et_MI yX10_refuses 10 := ⟨et_mt 1743 (by decide +kernel) rfl, et_mt 85 (by decide +kernel) rfl, TX10, 74, rfl⟩
theorem mi_X10_right : et_MI yX10_right 10 := ⟨et_mt 1589 (by decide +kernel) rfl, et_mt 59 (by decide +kernel) rfl, TX10, 74, rfl⟩
theorem mi_X10_ruleEyes : et_MI yX10_ruleEyes 10 := ⟨et_mt 1831 (by decide +kernel) rfl, et_mt 104 (by decide +kernel) rfl, TX10, 74, rfl⟩
theorem mi_X10_seenBy : et_MI yX10_seenBy 10 := ⟨et_mt 1885 (by decide +kernel) rfl, et_mt 109 (by decide +kernel) rfl, TX10, 74, rfl⟩
theorem mi_X10_speaks : et_MI yX10_speaks 10 := ⟨et_mt 1711 (by decide +kernel) rfl, et_mt 80 (by decide +kernel) rfl, TX10, 74, rfl⟩
theorem mi_X10_steps : et_MI yX10_steps 10 := ⟨et_mt 1597 (by decide +kernel) rfl, et_mt 61 (by decide +kernel) rfl, TX10, 74, rfl⟩
theorem mi_X10_toldEyes : et_MI yX10_toldEyes 10 := ⟨et_mt 1827 (by decide +kernel) rfl, et_mt 103 (by decide +kernel) rfl, TX10, 74, rfl⟩
theorem mi_X10_word0 : et_MI yX10_word0 10 := ⟨et_mt 1633 (by decide +kernel) rfl, et_mt 67 (by decide +kernel) rfl, TX10, 74, rfl⟩
theorem mi_X10_worldsOf : et_MI yX10_worldsOf 10 := ⟨et_mt 1877 (by decide +kernel) rfl, et_mt 107 (by decide +kernel) rfl, TX10, 74, rfl⟩
theorem mi_X1_add : et_MI yX1_add 1 := ⟨et_mt 1129 (by decide +kernel) rfl, et_mt 1130 (by decide +kernel) rfl, TX1, 6, rfl⟩
theorem mi_X1_copyFrom : et_MI yX1_copyFrom 1 := ⟨et_mt 685 (by decide +kernel) rfl, et_mt 686 (by decide +kernel) rfl, TX1, 6, rfl⟩
theorem mi_X1_every : et_MI yX1_every 1 := ⟨et_mt 623 (by decide +kernel) rfl, et_mt 624 (by decide +kernel) rfl, TX1, 6, rfl⟩
theorem mi_X1_isHeardBy : et_MI yX1_isHeardBy 1 := ⟨et_mt 586 (by decide +kernel) rfl, et_mt 587 (by decide +kernel) rfl, TX1, 6, rfl⟩
theorem mi_X2_clear : et_MI yX2_clear 2 := ⟨et_mt 997 (by decide +kernel) rfl, et_mt 998 (by decide +kernel) rfl, TX2, 4, rfl⟩
theorem mi_X2_fewest : et_MI yX2_fewest 2 := ⟨et_mt 620 (by decide +kernel) rfl, et_mt 2 (by decide +kernel) rfl, TX2, 4, rfl⟩
theorem mi_X2_keepFewest : et_MI yX2_keepFewest 2 := ⟨et_mt 571 (by decide +kernel) rfl, et_mt 572 (by decide +kernel) rfl, TX2, 4, rfl⟩
theorem mi_X3_alike : et_MI yX3_alike 3 := ⟨et_mt 1321 (by decide +kernel) rfl, et_mt 56 (by decide +kernel) rfl, TX3, 3, rfl⟩
theorem mi_X3_clear : et_MI yX3_clear 3 := ⟨et_mt 993 (by decide +kernel) rfl, et_mt 994 (by decide +kernel) rfl, TX3, 3, rfl⟩
theorem mi_X3_copyFrom : et_MI yX3_copyFrom 3 := ⟨et_mt 692 (by decide +kernel) rfl, et_mt 693 (by decide +kernel) rfl, TX3, 3, rfl⟩
theorem mi_X3_distinguished : et_MI yX3_distinguished 3 := ⟨et_mt 1316 (by decide +kernel) rfl, et_mt 55 (by decide +kernel) rfl, TX3, 3, rfl⟩
theorem mi_X3_hear : et_MI yX3_hear 3 := ⟨et_mt 1298 (by decide +kernel) rfl, et_mt 1299 (by decide +kernel) rfl, TX3, 3, rfl⟩
theorem mi_X3_isKnown : et_MI yX3_isKnown 3 := ⟨et_mt 1338 (by decide +kernel) rfl, et_mt 1339 (by decide +kernel) rfl, TX3, 3, rfl⟩
theorem mi_X3_knowing : et_MI yX3_knowing 3 := ⟨et_mt 1312 (by decide +kernel) rfl, et_mt 54 (by decide +kernel) rfl, TX3, 3, rfl⟩
theorem mi_X3_open : et_MI yX3_open 3 := ⟨et_mt 1286 (by decide +kernel) rfl, et_mt 1287 (by decide +kernel) rfl, TX3, 3, rfl⟩
theorem mi_X3_realWorld : et_MI yX3_realWorld 3 := ⟨et_mt 1325 (by decide +kernel) rfl, et_mt 57 (by decide +kernel) rfl, TX3, 3, rfl⟩
theorem mi_X3_slot : et_MI yX3_slot 3 := ⟨et_mt 1308 (by decide +kernel) rfl, et_mt 53 (by decide +kernel) rfl, TX3, 3, rfl⟩
theorem mi_X3_worldsWith : et_MI yX3_worldsWith 3 := ⟨et_mt 1304 (by decide +kernel) rfl, et_mt 52 (by decide +kernel) rfl, TX3, 3, rfl⟩
theorem mi_X4_atLine : et_MI yX4_atLine 4 := ⟨et_mt 972 (by decide +kernel) rfl, et_mt 32 (by decide +kernel) rfl, TX4, 11, rfl⟩
theorem mi_X4_changeLine : et_MI yX4_changeLine 4 := ⟨et_mt 911 (by decide +kernel) rfl, et_mt 22 (by decide +kernel) rfl, TX4, 11, rfl⟩
theorem mi_X4_endingLine : et_MI yX4_endingLine 4 := ⟨et_mt 890 (by decide +kernel) rfl, et_mt 19 (by decide +kernel) rfl, TX4, 11, rfl⟩
theorem mi_X4_is : et_MI yX4_is 4 := ⟨et_mt 812 (by decide +kernel) rfl, et_mt 13 (by decide +kernel) rfl, TX4, 11, rfl⟩
theorem mi_X4_isNumber : et_MI yX4_isNumber 4 := ⟨et_mt 898 (by decide +kernel) rfl, et_mt 21 (by decide +kernel) rfl, TX4, 11, rfl⟩
theorem mi_X4_isSemicolon : et_MI yX4_isSemicolon 4 := ⟨et_mt 885 (by decide +kernel) rfl, et_mt 18 (by decide +kernel) rfl, TX4, 11, rfl⟩
theorem mi_X4_letters : et_MI yX4_letters 4 := ⟨et_mt 872 (by decide +kernel) rfl, et_mt 16 (by decide +kernel) rfl, TX4, 11, rfl⟩
theorem mi_X4_nearLine : et_MI yX4_nearLine 4 := ⟨et_mt 933 (by decide +kernel) rfl, et_mt 25 (by decide +kernel) rfl, TX4, 11, rfl⟩
theorem mi_X4_notLine : et_MI yX4_notLine 4 := ⟨et_mt 919 (by decide +kernel) rfl, et_mt 23 (by decide +kernel) rfl, TX4, 11, rfl⟩
theorem mi_X4_number : et_MI yX4_number 4 := ⟨et_mt 894 (by decide +kernel) rfl, et_mt 20 (by decide +kernel) rfl, TX4, 11, rfl⟩
theorem mi_X4_oneOf : et_MI yX4_oneOf 4 := ⟨et_mt 937 (by decide +kernel) rfl, et_mt 26 (by decide +kernel) rfl, TX4, 11, rfl⟩
theorem mi_X4_personLine : et_MI yX4_personLine 4 := ⟨et_mt 942 (by decide +kernel) rfl, et_mt 27 (by decide +kernel) rfl, TX4, 11, rfl⟩
theorem mi_X4_placesLine : et_MI yX4_placesLine 4 := ⟨et_mt 928 (by decide +kernel) rfl, et_mt 24 (by decide +kernel) rfl, TX4, 11, rfl⟩
theorem mi_X4_read : et_MI yX4_read 4 := ⟨et_mt 774 (by decide +kernel) rfl, et_mt 775 (by decide +kernel) rfl, TX4, 11, rfl⟩
theorem mi_X4_readLine : et_MI yX4_readLine 4 := ⟨et_mt 807 (by decide +kernel) rfl, et_mt 12 (by decide +kernel) rfl, TX4, 11, rfl⟩
theorem mi_X4_refuse : et_MI yX4_refuse 4 := ⟨et_mt 868 (by decide +kernel) rfl, et_mt 15 (by decide +kernel) rfl, TX4, 11, rfl⟩
theorem mi_X4_ruleGround : et_MI yX4_ruleGround 4 := ⟨et_mt 966 (by decide +kernel) rfl, et_mt 31 (by decide +kernel) rfl, TX4, 11, rfl⟩
theorem mi_X4_ruleLine : et_MI yX4_ruleLine 4 := ⟨et_mt 962 (by decide +kernel) rfl, et_mt 30 (by decide +kernel) rfl, TX4, 11, rfl⟩
theorem mi_X4_semicolon : et_MI yX4_semicolon 4 := ⟨et_mt 881 (by decide +kernel) rfl, et_mt 17 (by decide +kernel) rfl, TX4, 11, rfl⟩
theorem mi_X4_stemLine : et_MI yX4_stemLine 4 := ⟨et_mt 864 (by decide +kernel) rfl, et_mt 14 (by decide +kernel) rfl, TX4, 11, rfl⟩
theorem mi_X4_step : et_MI yX4_step 4 := ⟨et_mt 790 (by decide +kernel) rfl, et_mt 10 (by decide +kernel) rfl, TX4, 11, rfl⟩
theorem mi_X4_takeDigits : et_MI yX4_takeDigits 4 := ⟨et_mt 803 (by decide +kernel) rfl, et_mt 11 (by decide +kernel) rfl, TX4, 11, rfl⟩
theorem mi_X4_thingLine : et_MI yX4_thingLine 4 := ⟨et_mt 947 (by decide +kernel) rfl, et_mt 28 (by decide +kernel) rfl, TX4, 11, rfl⟩
theorem mi_X4_thingSigns : et_MI yX4_thingSigns 4 := ⟨et_mt 955 (by decide +kernel) rfl, et_mt 29 (by decide +kernel) rfl, TX4, 11, rfl⟩
theorem mi_X4_weighLine : et_MI yX4_weighLine 4 := ⟨et_mt 977 (by decide +kernel) rfl, et_mt 33 (by decide +kernel) rfl, TX4, 11, rfl⟩
theorem mi_X5_add : et_MI yX5_add 5 := ⟨et_mt 1092 (by decide +kernel) rfl, et_mt 39 (by decide +kernel) rfl, TX5, 6, rfl⟩
theorem mi_X5_clear : et_MI yX5_clear 5 := ⟨et_mt 783 (by decide +kernel) rfl, et_mt 784 (by decide +kernel) rfl, TX5, 6, rfl⟩
theorem mi_X5_copyFrom : et_MI yX5_copyFrom 5 := ⟨et_mt 988 (by decide +kernel) rfl, et_mt 989 (by decide +kernel) rfl, TX5, 6, rfl⟩
theorem mi_X5_firstChange : et_MI yX5_firstChange 5 := ⟨et_mt 1080 (by decide +kernel) rfl, et_mt 37 (by decide +kernel) rfl, TX5, 6, rfl⟩
theorem mi_X5_hasEnding : et_MI yX5_hasEnding 5 := ⟨et_mt 901 (by decide +kernel) rfl, et_mt 902 (by decide +kernel) rfl, TX5, 6, rfl⟩
theorem mi_X5_hasNot : et_MI yX5_hasNot 5 := ⟨et_mt 922 (by decide +kernel) rfl, et_mt 923 (by decide +kernel) rfl, TX5, 6, rfl⟩
theorem mi_X5_hasStem : et_MI yX5_hasStem 5 := ⟨et_mt 1071 (by decide +kernel) rfl, et_mt 1072 (by decide +kernel) rfl, TX5, 6, rfl⟩
theorem mi_X5_isMade : et_MI yX5_isMade 5 := ⟨et_mt 1107 (by decide +kernel) rfl, et_mt 1108 (by decide +kernel) rfl, TX5, 6, rfl⟩
theorem mi_X5_isNot : et_MI yX5_isNot 5 := ⟨et_mt 1155 (by decide +kernel) rfl, et_mt 1156 (by decide +kernel) rfl, TX5, 6, rfl⟩
theorem mi_X5_make : et_MI yX5_make 5 := ⟨et_mt 1075 (by decide +kernel) rfl, et_mt 1076 (by decide +kernel) rfl, TX5, 6, rfl⟩
theorem mi_X5_put : et_MI yX5_put 5 := ⟨et_mt 875 (by decide +kernel) rfl, et_mt 876 (by decide +kernel) rfl, TX5, 6, rfl⟩
theorem mi_X5_standsAt : et_MI yX5_standsAt 5 := ⟨et_mt 1085 (by decide +kernel) rfl, et_mt 38 (by decide +kernel) rfl, TX5, 6, rfl⟩
theorem mi_X6_clear : et_MI yX6_clear 6 := ⟨et_mt 779 (by decide +kernel) rfl, et_mt 780 (by decide +kernel) rfl, TX6, 15, rfl⟩
theorem mi_X6_copyFrom : et_MI yX6_copyFrom 6 := ⟨et_mt 984 (by decide +kernel) rfl, et_mt 985 (by decide +kernel) rfl, TX6, 15, rfl⟩
theorem mi_X6_fillHours : et_MI yX6_fillHours 6 := ⟨et_mt 980 (by decide +kernel) rfl, et_mt 981 (by decide +kernel) rfl, TX6, 15, rfl⟩
theorem mi_X6_followers : et_MI yX6_followers 6 := ⟨et_mt 659 (by decide +kernel) rfl, et_mt 660 (by decide +kernel) rfl, TX6, 15, rfl⟩
theorem mi_X6_follows : et_MI yX6_follows 6 := ⟨et_mt 644 (by decide +kernel) rfl, et_mt 645 (by decide +kernel) rfl, TX6, 15, rfl⟩
theorem mi_X6_hasPerson : et_MI yX6_hasPerson 6 := ⟨et_mt 1036 (by decide +kernel) rfl, et_mt 1037 (by decide +kernel) rfl, TX6, 15, rfl⟩
theorem mi_X6_hasThing : et_MI yX6_hasThing 6 := ⟨et_mt 1059 (by decide +kernel) rfl, et_mt 1060 (by decide +kernel) rfl, TX6, 15, rfl⟩
theorem mi_X6_isNear : et_MI yX6_isNear 6 := ⟨et_mt 610 (by decide +kernel) rfl, et_mt 611 (by decide +kernel) rfl, TX6, 15, rfl⟩
theorem mi_X6_isWorkedOut : et_MI yX6_isWorkedOut 6 := ⟨et_mt 640 (by decide +kernel) rfl, et_mt 641 (by decide +kernel) rfl, TX6, 15, rfl⟩
theorem mi_X6_ownHows : et_MI yX6_ownHows 6 := ⟨et_mt 598 (by decide +kernel) rfl, et_mt 599 (by decide +kernel) rfl, TX6, 15, rfl⟩
theorem mi_X6_ownThings : et_MI yX6_ownThings 6 := ⟨et_mt 594 (by decide +kernel) rfl, et_mt 595 (by decide +kernel) rfl, TX6, 15, rfl⟩
theorem mi_X6_placeAt : et_MI yX6_placeAt 6 := ⟨et_mt 590 (by decide +kernel) rfl, et_mt 591 (by decide +kernel) rfl, TX6, 15, rfl⟩
theorem mi_X6_thingOfStem : et_MI yX6_thingOfStem 6 := ⟨et_mt 950 (by decide +kernel) rfl, et_mt 951 (by decide +kernel) rfl, TX6, 15, rfl⟩
theorem mi_X6_wasThere : et_MI yX6_wasThere 6 := ⟨et_mt 602 (by decide +kernel) rfl, et_mt 603 (by decide +kernel) rfl, TX6, 15, rfl⟩
theorem mi_X6_weighed : et_MI yX6_weighed 6 := ⟨et_mt 1273 (by decide +kernel) rfl, et_mt 1274 (by decide +kernel) rfl, TX6, 15, rfl⟩
theorem mi_X7_isClear : et_MI yX7_isClear 7 := ⟨et_mt 1140 (by decide +kernel) rfl, et_mt 1141 (by decide +kernel) rfl, TX7, 7, rfl⟩
theorem mi_X7_isOneWay : et_MI yX7_isOneWay 7 := ⟨et_mt 1162 (by decide +kernel) rfl, et_mt 43 (by decide +kernel) rfl, TX7, 7, rfl⟩
theorem mi_X7_skipBlanks : et_MI yX7_skipBlanks 7 := ⟨et_mt 1146 (by decide +kernel) rfl, et_mt 41 (by decide +kernel) rfl, TX7, 7, rfl⟩
theorem mi_X7_takeWord : et_MI yX7_takeWord 7 := ⟨et_mt 1151 (by decide +kernel) rfl, et_mt 42 (by decide +kernel) rfl, TX7, 7, rfl⟩
theorem mi_X8_find : et_MI yX8_find 8 := ⟨et_mt 1102 (by decide +kernel) rfl, et_mt 1103 (by decide +kernel) rfl, TX8, 2, rfl⟩
theorem mi_X8_keep : et_MI yX8_keep 8 := ⟨et_mt 1112 (by decide +kernel) rfl, et_mt 40 (by decide +kernel) rfl, TX8, 2, rfl⟩
theorem mi_X9_needHour : et_MI yX9_needHour 9 := ⟨et_mt 1041 (by decide +kernel) rfl, et_mt 35 (by decide +kernel) rfl, TX9, 18, rfl⟩
theorem mi_X9_needPerson : et_MI yX9_needPerson 9 := ⟨et_mt 1033 (by decide +kernel) rfl, et_mt 34 (by decide +kernel) rfl, TX9, 18, rfl⟩
theorem mi_X9_needThing : et_MI yX9_needThing 9 := ⟨et_mt 1056 (by decide +kernel) rfl, et_mt 36 (by decide +kernel) rfl, TX9, 18, rfl⟩
theorem mi_X9_putBytes : et_MI yX9_putBytes 9 := ⟨et_mt 552 (by decide +kernel) rfl, et_mt 0 (by decide +kernel) rfl, TX9, 18, rfl⟩
theorem mi_X9_takeTape : et_MI yX9_takeTape 9 := ⟨et_mt 709 (by decide +kernel) rfl, et_mt 8 (by decide +kernel) rfl, TX9, 18, rfl⟩
theorem st_J6_bitCount_0f7a4 : Cond.static yJ6_bitCount_0f7a4 ∈ et_tb := et_mt 671 (by decide +kernel) rfl
theorem st_J7_fill_53178 : Cond.static yJ7_fill_53178 ∈ et_tb := et_mt 579 (by decide +kernel) rfl
theorem st_X0_aboutRow : Cond.static yX0_aboutRow ∈ et_tb := et_mt 615 (by decide +kernel) rfl
theorem st_X0_firstBit : Cond.static yX0_firstBit ∈ et_tb := et_mt 648 (by decide +kernel) rfl
theorem st_X10_bits : Cond.static yX10_bits ∈ et_tb := et_mt 1687 (by decide +kernel) rfl
theorem st_X10_isDigit : Cond.static yX10_isDigit ∈ et_tb := et_mt 1607 (by decide +kernel) rfl
theorem st_X10_isLetter : Cond.static yX10_isLetter ∈ et_tb := et_mt 1604 (by decide +kernel) rfl
theorem st_X10_letters : Cond.static yX10_letters ∈ et_tb := et_mt 1622 (by decide +kernel) rfl
theorem st_X10_low : Cond.static yX10_low ∈ et_tb := et_mt 1888 (by decide +kernel) rfl
theorem st_X10_spelled : Cond.static yX10_spelled ∈ et_tb := et_mt 1625 (by decide +kernel) rfl
theorem st_X10_within : Cond.static yX10_within ∈ et_tb := et_mt 1684 (by decide +kernel) rfl
theorem st_X3_figure : Cond.static yX3_figure ∈ et_tb := et_mt 1335 (by decide +kernel) rfl
theorem st_X5_changeSlot : Cond.static yX5_changeSlot ∈ et_tb := et_mt 914 (by decide +kernel) rfl
theorem st_X5_endingSlot : Cond.static yX5_endingSlot ∈ et_tb := et_mt 905 (by decide +kernel) rfl
theorem st_X6_isHour : Cond.static yX6_isHour ∈ et_tb := et_mt 1044 (by decide +kernel) rfl
theorem st_X9_areSame : Cond.static yX9_areSame ∈ et_tb := et_mt 1088 (by decide +kernel) rfl
theorem st_X9_hasBit : Cond.static yX9_hasBit ∈ et_tb := et_mt 607 (by decide +kernel) rfl
theorem st_X9_isBlank : Cond.static yX9_isBlank ∈ et_tb := et_mt 793 (by decide +kernel) rfl
theorem st_X9_isDigit : Cond.static yX9_isDigit ∈ et_tb := et_mt 799 (by decide +kernel) rfl
theorem st_X9_isLetter : Cond.static yX9_isLetter ∈ et_tb := et_mt 796 (by decide +kernel) rfl
theorem et_out0_3 {x : Int32} (h0 : ¬ x = 0) (h1 : ¬ x = 1) (h2 : ¬ x = 2) (h3 : ¬ x = 3) : x.toInt < 0 ∨ 3 < x.toInt := by
  have e0 : ¬ x.toInt = 0 := fun e => h0 (Int32.toInt_inj.mp (by rw [e]; rfl))
  have e1 : ¬ x.toInt = 1 := fun e => h1 (Int32.toInt_inj.mp (by rw [e]; rfl))
  have e2 : ¬ x.toInt = 2 := fun e => h2 (Int32.toInt_inj.mp (by rw [e]; rfl))
  have e3 : ¬ x.toInt = 3 := fun e => h3 (Int32.toInt_inj.mp (by rw [e]; rfl))
  omega
theorem et_out0_4 {x : Int32} (h0 : ¬ x = 0) (h1 : ¬ x = 1) (h2 : ¬ x = 2) (h3 : ¬ x = 3) (h4 : ¬ x = 4) : x.toInt < 0 ∨ 4 < x.toInt := by
  have e0 : ¬ x.toInt = 0 := fun e => h0 (Int32.toInt_inj.mp (by rw [e]; rfl))
  have e1 : ¬ x.toInt = 1 := fun e => h1 (Int32.toInt_inj.mp (by rw [e]; rfl))
  have e2 : ¬ x.toInt = 2 := fun e => h2 (Int32.toInt_inj.mp (by rw [e]; rfl))
  have e3 : ¬ x.toInt = 3 := fun e => h3 (Int32.toInt_inj.mp (by rw [e]; rfl))
  have e4 : ¬ x.toInt = 4 := fun e => h4 (Int32.toInt_inj.mp (by rw [e]; rfl))
  omega
theorem et_out0_7 {x : Int32} (h0 : ¬ x = 0) (h1 : ¬ x = 1) (h2 : ¬ x = 2) (h3 : ¬ x = 3) (h4 : ¬ x = 4) (h5 : ¬ x = 5) (h6 : ¬ x = 6) (h7 : ¬ x = 7) : x.toInt < 0 ∨ 7 < x.toInt := by
  have e0 : ¬ x.toInt = 0 := fun e => h0 (Int32.toInt_inj.mp (by rw [e]; rfl))
  have e1 : ¬ x.toInt = 1 := fun e => h1 (Int32.toInt_inj.mp (by rw [e]; rfl))
  have e2 : ¬ x.toInt = 2 := fun e => h2 (Int32.toInt_inj.mp (by rw [e]; rfl))
  have e3 : ¬ x.toInt = 3 := fun e => h3 (Int32.toInt_inj.mp (by rw [e]; rfl))
  have e4 : ¬ x.toInt = 4 := fun e => h4 (Int32.toInt_inj.mp (by rw [e]; rfl))
  have e5 : ¬ x.toInt = 5 := fun e => h5 (Int32.toInt_inj.mp (by rw [e]; rfl))
  have e6 : ¬ x.toInt = 6 := fun e => h6 (Int32.toInt_inj.mp (by rw [e]; rfl))
  have e7 : ¬ x.toInt = 7 := fun e => h7 (Int32.toInt_inj.mp (by rw [e]; rfl))
  omega
theorem et_out0_11 {x : Int32} (h0 : ¬ x = 0) (h1 : ¬ x = 1) (h2 : ¬ x = 2) (h3 : ¬ x = 3) (h4 : ¬ x = 4) (h5 : ¬ x = 5) (h6 : ¬ x = 6) (h7 : ¬ x = 7) (h8 : ¬ x = 8) (h9 : ¬ x = 9) (h10 : ¬ x = 10) (h11 : ¬ x = 11) : x.toInt < 0 ∨ 11 < x.toInt := by
  have e0 : ¬ x.toInt = 0 := fun e => h0 (Int32.toInt_inj.mp (by rw [e]; rfl))
  have e1 : ¬ x.toInt = 1 := fun e => h1 (Int32.toInt_inj.mp (by rw [e]; rfl))
  have e2 : ¬ x.toInt = 2 := fun e => h2 (Int32.toInt_inj.mp (by rw [e]; rfl))
  have e3 : ¬ x.toInt = 3 := fun e => h3 (Int32.toInt_inj.mp (by rw [e]; rfl))
  have e4 : ¬ x.toInt = 4 := fun e => h4 (Int32.toInt_inj.mp (by rw [e]; rfl))
  have e5 : ¬ x.toInt = 5 := fun e => h5 (Int32.toInt_inj.mp (by rw [e]; rfl))
  have e6 : ¬ x.toInt = 6 := fun e => h6 (Int32.toInt_inj.mp (by rw [e]; rfl))
  have e7 : ¬ x.toInt = 7 := fun e => h7 (Int32.toInt_inj.mp (by rw [e]; rfl))
  have e8 : ¬ x.toInt = 8 := fun e => h8 (Int32.toInt_inj.mp (by rw [e]; rfl))
  have e9 : ¬ x.toInt = 9 := fun e => h9 (Int32.toInt_inj.mp (by rw [e]; rfl))
  have e10 : ¬ x.toInt = 10 := fun e => h10 (Int32.toInt_inj.mp (by rw [e]; rfl))
  have e11 : ¬ x.toInt = 11 := fun e => h11 (Int32.toInt_inj.mp (by rw [e]; rfl))
  omega
