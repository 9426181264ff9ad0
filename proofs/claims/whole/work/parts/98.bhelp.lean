/-! the law's helpers -/
theorem q_1133 : Cond.classLink RL 13 "java/lang/IllegalStateException" ∈ WT := kw 1133 (by decide +kernel) rfl
theorem q_1134 : Cond.methodLink RL 7 yX11_append ∈ WT := kw 1134 (by decide +kernel) rfl
theorem q_1136 : Cond.selects RX11 yX11_append yX11_append ∈ WT := kw 1136 (by decide +kernel) rfl
theorem q_1215 : Cond.classLink RL 19 "java/lang/IllegalArgumentException" ∈ WT := kw 1215 (by decide +kernel) rfl
theorem q_1216 : Cond.methodLink RL 15 yX11_truncate ∈ WT := kw 1216 (by decide +kernel) rfl
theorem q_1218 : Cond.selects RX11 yX11_truncate yX11_truncate ∈ WT := kw 1218 (by decide +kernel) rfl
theorem q_1242 : Cond.classLink RL 24 "java/lang/IndexOutOfBoundsException" ∈ WT := kw 1242 (by decide +kernel) rfl
theorem q_1243 : Cond.methodLink RL 21 yX11_armLength ∈ WT := kw 1243 (by decide +kernel) rfl
theorem q_1245 : Cond.selects RX11 yX11_armLength yX11_armLength ∈ WT := kw 1245 (by decide +kernel) rfl
theorem q_1271 : Cond.methodLink RL 26 yX11_stiffness ∈ WT := kw 1271 (by decide +kernel) rfl
theorem q_1273 : Cond.selects RX11 yX11_stiffness yX11_stiffness ∈ WT := kw 1273 (by decide +kernel) rfl
theorem q_1278 : Cond.methodLink RL 29 yX11_torque ∈ WT := kw 1278 (by decide +kernel) rfl
theorem q_1280 : Cond.selects RX11 yX11_torque yX11_torque ∈ WT := kw 1280 (by decide +kernel) rfl
theorem q_1286 : Cond.methodLink RL 32 yX11_tilt ∈ WT := kw 1286 (by decide +kernel) rfl
theorem q_1288 : Cond.selects RX11 yX11_tilt yX11_tilt ∈ WT := kw 1288 (by decide +kernel) rfl
theorem q_1294 : Cond.methodLink RL 35 yX11_isBalanced ∈ WT := kw 1294 (by decide +kernel) rfl
theorem q_1296 : Cond.selects RX11 yX11_isBalanced yX11_isBalanced ∈ WT := kw 1296 (by decide +kernel) rfl
theorem q_1301 : Cond.methodLink RL 39 yX11_seatOwner ∈ WT := kw 1301 (by decide +kernel) rfl
theorem q_1303 : Cond.selects RX11 yX11_seatOwner yX11_seatOwner ∈ WT := kw 1303 (by decide +kernel) rfl
theorem q_1315 : Cond.methodLink RL 43 yX11_seatHeight ∈ WT := kw 1315 (by decide +kernel) rfl
theorem q_1317 : Cond.selects RX11 yX11_seatHeight yX11_seatHeight ∈ WT := kw 1317 (by decide +kernel) rfl
theorem q_1323 : Cond.methodLink RL 46 yX11_seatPrice ∈ WT := kw 1323 (by decide +kernel) rfl
theorem q_1325 : Cond.selects RX11 yX11_seatPrice yX11_seatPrice ∈ WT := kw 1325 (by decide +kernel) rfl
theorem q_1331 : Cond.methodLink RL 49 yX11_balancingSeat ∈ WT := kw 1331 (by decide +kernel) rfl
theorem q_1333 : Cond.selects RX11 yX11_balancingSeat yX11_balancingSeat ∈ WT := kw 1333 (by decide +kernel) rfl
theorem q_1342 : Cond.methodLink RL 52 yX11_nameLetter ∈ WT := kw 1342 (by decide +kernel) rfl
theorem q_1344 : Cond.selects RX11 yX11_nameLetter yX11_nameLetter ∈ WT := kw 1344 (by decide +kernel) rfl
theorem q_1359 : Cond.methodLink RL 55 yX11_weightOf ∈ WT := kw 1359 (by decide +kernel) rfl
theorem q_1361 : Cond.selects RX11 yX11_weightOf yX11_weightOf ∈ WT := kw 1361 (by decide +kernel) rfl
theorem q_1366 : Cond.methodLink RL 58 yX11_purseOf ∈ WT := kw 1366 (by decide +kernel) rfl
theorem q_1368 : Cond.selects RX11 yX11_purseOf yX11_purseOf ∈ WT := kw 1368 (by decide +kernel) rfl
theorem q_1373 : Cond.methodLink RL 61 yX11_ageOf ∈ WT := kw 1373 (by decide +kernel) rfl
theorem q_1375 : Cond.selects RX11 yX11_ageOf yX11_ageOf ∈ WT := kw 1375 (by decide +kernel) rfl
theorem q_1380 : Cond.methodLink RL 64 yX11_isPresent ∈ WT := kw 1380 (by decide +kernel) rfl
theorem q_1382 : Cond.selects RX11 yX11_isPresent yX11_isPresent ∈ WT := kw 1382 (by decide +kernel) rfl
theorem q_1387 : Cond.methodLink RL 67 yX11_boardOf ∈ WT := kw 1387 (by decide +kernel) rfl
theorem q_1389 : Cond.selects RX11 yX11_boardOf yX11_boardOf ∈ WT := kw 1389 (by decide +kernel) rfl
theorem q_1394 : Cond.methodLink RL 70 yX11_positionOf ∈ WT := kw 1394 (by decide +kernel) rfl
theorem q_1396 : Cond.selects RX11 yX11_positionOf yX11_positionOf ∈ WT := kw 1396 (by decide +kernel) rfl
theorem q_1401 : Cond.methodLink RL 73 yX11_incomeOf ∈ WT := kw 1401 (by decide +kernel) rfl
theorem q_1403 : Cond.selects RX11 yX11_incomeOf yX11_incomeOf ∈ WT := kw 1403 (by decide +kernel) rfl
theorem q_1409 : Cond.methodLink RL 76 yX11_reasonAgainstSeat ∈ WT := kw 1409 (by decide +kernel) rfl
theorem q_1411 : Cond.selects RX11 yX11_reasonAgainstSeat yX11_reasonAgainstSeat ∈ WT := kw 1411 (by decide +kernel) rfl
theorem q_1417 : Cond.methodLink RL 80 yX11_reasonAgainstSale ∈ WT := kw 1417 (by decide +kernel) rfl
theorem q_1419 : Cond.selects RX11 yX11_reasonAgainstSale yX11_reasonAgainstSale ∈ WT := kw 1419 (by decide +kernel) rfl
theorem q_1429 : Cond.methodLink RL 83 yX11_reasonAgainstSwap ∈ WT := kw 1429 (by decide +kernel) rfl
theorem q_1431 : Cond.selects RX11 yX11_reasonAgainstSwap yX11_reasonAgainstSwap ∈ WT := kw 1431 (by decide +kernel) rfl
theorem q_1437 : Cond.methodLink RL 86 yX11_weightUnitPrice ∈ WT := kw 1437 (by decide +kernel) rfl
theorem q_1439 : Cond.selects RX11 yX11_weightUnitPrice yX11_weightUnitPrice ∈ WT := kw 1439 (by decide +kernel) rfl
theorem q_1450 : Cond.methodLink RL 89 yX11_bestSeat ∈ WT := kw 1450 (by decide +kernel) rfl
theorem q_1452 : Cond.selects RX11 yX11_bestSeat yX11_bestSeat ∈ WT := kw 1452 (by decide +kernel) rfl
theorem q_1462 : Cond.methodLink RL 92 yX11_purseAfter ∈ WT := kw 1462 (by decide +kernel) rfl
theorem q_1464 : Cond.selects RX11 yX11_purseAfter yX11_purseAfter ∈ WT := kw 1464 (by decide +kernel) rfl
theorem q_1470 : Cond.methodLink RL 95 yX11_bankAfter ∈ WT := kw 1470 (by decide +kernel) rfl
theorem q_1472 : Cond.selects RX11 yX11_bankAfter yX11_bankAfter ∈ WT := kw 1472 (by decide +kernel) rfl
theorem q_1477 : Cond.methodLink RL 98 yX11_daysUntilFall ∈ WT := kw 1477 (by decide +kernel) rfl
theorem q_1479 : Cond.selects RX11 yX11_daysUntilFall yX11_daysUntilFall ∈ WT := kw 1479 (by decide +kernel) rfl
theorem q_1489 : Cond.methodLink RL 101 yX11_daysUntilRetirement ∈ WT := kw 1489 (by decide +kernel) rfl
theorem q_1491 : Cond.selects RX11 yX11_daysUntilRetirement yX11_daysUntilRetirement ∈ WT := kw 1491 (by decide +kernel) rfl
theorem q_1496 : Cond.methodLink RL 104 yX11_join ∈ WT := kw 1496 (by decide +kernel) rfl
theorem q_1498 : Cond.selects RX11 yX11_join yX11_join ∈ WT := kw 1498 (by decide +kernel) rfl
theorem q_1506 : Cond.methodLink RL 107 yX11_buySeat ∈ WT := kw 1506 (by decide +kernel) rfl
theorem q_1508 : Cond.selects RX11 yX11_buySeat yX11_buySeat ∈ WT := kw 1508 (by decide +kernel) rfl
theorem q_1518 : Cond.methodLink RL 110 yX11_leaveSeat ∈ WT := kw 1518 (by decide +kernel) rfl
theorem q_1520 : Cond.selects RX11 yX11_leaveSeat yX11_leaveSeat ∈ WT := kw 1520 (by decide +kernel) rfl
theorem q_1526 : Cond.methodLink RL 113 yX11_sellWeight ∈ WT := kw 1526 (by decide +kernel) rfl
theorem q_1528 : Cond.selects RX11 yX11_sellWeight yX11_sellWeight ∈ WT := kw 1528 (by decide +kernel) rfl
theorem q_1534 : Cond.methodLink RL 116 yX11_swapSeats ∈ WT := kw 1534 (by decide +kernel) rfl
theorem q_1536 : Cond.selects RX11 yX11_swapSeats yX11_swapSeats ∈ WT := kw 1536 (by decide +kernel) rfl
theorem q_1542 : Cond.methodLink RL 119 yX11_setWage ∈ WT := kw 1542 (by decide +kernel) rfl
theorem q_1544 : Cond.selects RX11 yX11_setWage yX11_setWage ∈ WT := kw 1544 (by decide +kernel) rfl
theorem q_1549 : Cond.methodLink RL 122 yX11_advance ∈ WT := kw 1549 (by decide +kernel) rfl
theorem q_1551 : Cond.selects RX11 yX11_advance yX11_advance ∈ WT := kw 1551 (by decide +kernel) rfl
theorem q_1558 : Cond.methodLink RL 125 yX11_writeBoard ∈ WT := kw 1558 (by decide +kernel) rfl
theorem q_1560 : Cond.selects RX11 yX11_writeBoard yX11_writeBoard ∈ WT := kw 1560 (by decide +kernel) rfl
theorem q_1575 : Cond.methodLink RL 128 yX11_undo ∈ WT := kw 1575 (by decide +kernel) rfl
theorem q_1577 : Cond.selects RX11 yX11_undo yX11_undo ∈ WT := kw 1577 (by decide +kernel) rfl
theorem q_1587 : Cond.methodLink RL 132 yX11_save ∈ WT := kw 1587 (by decide +kernel) rfl
theorem q_1589 : Cond.selects RX11 yX11_save yX11_save ∈ WT := kw 1589 (by decide +kernel) rfl
theorem q_1599 : Cond.methodLink RL 135 yX11_restore ∈ WT := kw 1599 (by decide +kernel) rfl
theorem q_1601 : Cond.selects RX11 yX11_restore yX11_restore ∈ WT := kw 1601 (by decide +kernel) rfl
section kInst
variable {β : Type} {p : Program} {l : Launch} {e : Env} {R : Room} {s : State} {m : MethodId} {args : Array Value} {below : List Frame} {meth : Method} {c : Code} {cc : ByteArray} {nL : Nat} {g : kG} {dep : Nat} {Q : β → State → Prop} {k n : Nat} {o : Option β} {pc : Nat} {lv : List (Nat × Value)} {st : List Value} {M : kMem}
end kInst
theorem lk_X11_append : kLk yX11_append cX11_append 7 (some .int) 5 := ⟨kw 1137 (by decide +kernel) rfl, kw 1135 (by decide +kernel) rfl, kw 129 (by decide +kernel) rfl, ⟨by decide, by decide, by decide +kernel⟩, Nat.le_of_ble_eq_true rfl⟩
theorem lk_X11_truncate : kLk yX11_truncate cX11_truncate 2 (some .int) 1 := ⟨kw 1219 (by decide +kernel) rfl, kw 1217 (by decide +kernel) rfl, kw 129 (by decide +kernel) rfl, ⟨by decide, by decide, by decide +kernel⟩, Nat.le_of_ble_eq_true rfl⟩
theorem lk_X11_armLength : kLk yX11_armLength cX11_armLength 2 (some .int) 1 := ⟨kw 1246 (by decide +kernel) rfl, kw 1244 (by decide +kernel) rfl, kw 129 (by decide +kernel) rfl, ⟨by decide, by decide, by decide +kernel⟩, Nat.le_of_ble_eq_true rfl⟩
theorem lk_X11_stiffness : kLk yX11_stiffness cX11_stiffness 2 (some .int) 1 := ⟨kw 1274 (by decide +kernel) rfl, kw 1272 (by decide +kernel) rfl, kw 129 (by decide +kernel) rfl, ⟨by decide, by decide, by decide +kernel⟩, Nat.le_of_ble_eq_true rfl⟩
theorem lk_X11_torque : kLk yX11_torque cX11_torque 2 (some .int) 1 := ⟨kw 1281 (by decide +kernel) rfl, kw 1279 (by decide +kernel) rfl, kw 129 (by decide +kernel) rfl, ⟨by decide, by decide, by decide +kernel⟩, Nat.le_of_ble_eq_true rfl⟩
theorem lk_X11_tilt : kLk yX11_tilt cX11_tilt 3 (some .int) 1 := ⟨kw 1289 (by decide +kernel) rfl, kw 1287 (by decide +kernel) rfl, kw 129 (by decide +kernel) rfl, ⟨by decide, by decide, by decide +kernel⟩, Nat.le_of_ble_eq_true rfl⟩
theorem lk_X11_isBalanced : kLk yX11_isBalanced cX11_isBalanced 2 (some .boolean) 1 := ⟨kw 1297 (by decide +kernel) rfl, kw 1295 (by decide +kernel) rfl, kw 129 (by decide +kernel) rfl, ⟨by decide, by decide, by decide +kernel⟩, Nat.le_of_ble_eq_true rfl⟩
theorem lk_X11_seatOwner : kLk yX11_seatOwner cX11_seatOwner 3 (some .int) 2 := ⟨kw 1304 (by decide +kernel) rfl, kw 1302 (by decide +kernel) rfl, kw 129 (by decide +kernel) rfl, ⟨by decide, by decide, by decide +kernel⟩, Nat.le_of_ble_eq_true rfl⟩
theorem lk_X11_seatHeight : kLk yX11_seatHeight cX11_seatHeight 3 (some .int) 2 := ⟨kw 1318 (by decide +kernel) rfl, kw 1316 (by decide +kernel) rfl, kw 129 (by decide +kernel) rfl, ⟨by decide, by decide, by decide +kernel⟩, Nat.le_of_ble_eq_true rfl⟩
theorem lk_X11_seatPrice : kLk yX11_seatPrice cX11_seatPrice 3 (some .int) 2 := ⟨kw 1326 (by decide +kernel) rfl, kw 1324 (by decide +kernel) rfl, kw 129 (by decide +kernel) rfl, ⟨by decide, by decide, by decide +kernel⟩, Nat.le_of_ble_eq_true rfl⟩
theorem lk_X11_balancingSeat : kLk yX11_balancingSeat cX11_balancingSeat 4 (some .int) 2 := ⟨kw 1334 (by decide +kernel) rfl, kw 1332 (by decide +kernel) rfl, kw 129 (by decide +kernel) rfl, ⟨by decide, by decide, by decide +kernel⟩, Nat.le_of_ble_eq_true rfl⟩
theorem lk_X11_nameLetter : kLk yX11_nameLetter cX11_nameLetter 3 (some .int) 2 := ⟨kw 1345 (by decide +kernel) rfl, kw 1343 (by decide +kernel) rfl, kw 129 (by decide +kernel) rfl, ⟨by decide, by decide, by decide +kernel⟩, Nat.le_of_ble_eq_true rfl⟩
theorem lk_X11_weightOf : kLk yX11_weightOf cX11_weightOf 2 (some .int) 1 := ⟨kw 1362 (by decide +kernel) rfl, kw 1360 (by decide +kernel) rfl, kw 129 (by decide +kernel) rfl, ⟨by decide, by decide, by decide +kernel⟩, Nat.le_of_ble_eq_true rfl⟩
theorem lk_X11_purseOf : kLk yX11_purseOf cX11_purseOf 2 (some .int) 1 := ⟨kw 1369 (by decide +kernel) rfl, kw 1367 (by decide +kernel) rfl, kw 129 (by decide +kernel) rfl, ⟨by decide, by decide, by decide +kernel⟩, Nat.le_of_ble_eq_true rfl⟩
theorem lk_X11_ageOf : kLk yX11_ageOf cX11_ageOf 2 (some .int) 1 := ⟨kw 1376 (by decide +kernel) rfl, kw 1374 (by decide +kernel) rfl, kw 129 (by decide +kernel) rfl, ⟨by decide, by decide, by decide +kernel⟩, Nat.le_of_ble_eq_true rfl⟩
theorem lk_X11_isPresent : kLk yX11_isPresent cX11_isPresent 2 (some .boolean) 1 := ⟨kw 1383 (by decide +kernel) rfl, kw 1381 (by decide +kernel) rfl, kw 129 (by decide +kernel) rfl, ⟨by decide, by decide, by decide +kernel⟩, Nat.le_of_ble_eq_true rfl⟩
theorem lk_X11_boardOf : kLk yX11_boardOf cX11_boardOf 2 (some .int) 1 := ⟨kw 1390 (by decide +kernel) rfl, kw 1388 (by decide +kernel) rfl, kw 129 (by decide +kernel) rfl, ⟨by decide, by decide, by decide +kernel⟩, Nat.le_of_ble_eq_true rfl⟩
theorem lk_X11_positionOf : kLk yX11_positionOf cX11_positionOf 2 (some .int) 1 := ⟨kw 1397 (by decide +kernel) rfl, kw 1395 (by decide +kernel) rfl, kw 129 (by decide +kernel) rfl, ⟨by decide, by decide, by decide +kernel⟩, Nat.le_of_ble_eq_true rfl⟩
theorem lk_X11_incomeOf : kLk yX11_incomeOf cX11_incomeOf 2 (some .int) 1 := ⟨kw 1404 (by decide +kernel) rfl, kw 1402 (by decide +kernel) rfl, kw 129 (by decide +kernel) rfl, ⟨by decide, by decide, by decide +kernel⟩, Nat.le_of_ble_eq_true rfl⟩
theorem lk_X11_reasonAgainstSeat : kLk yX11_reasonAgainstSeat cX11_reasonAgainstSeat 5 (some .int) 3 := ⟨kw 1412 (by decide +kernel) rfl, kw 1410 (by decide +kernel) rfl, kw 129 (by decide +kernel) rfl, ⟨by decide, by decide, by decide +kernel⟩, Nat.le_of_ble_eq_true rfl⟩
theorem lk_X11_reasonAgainstSale : kLk yX11_reasonAgainstSale cX11_reasonAgainstSale 6 (some .int) 3 := ⟨kw 1420 (by decide +kernel) rfl, kw 1418 (by decide +kernel) rfl, kw 129 (by decide +kernel) rfl, ⟨by decide, by decide, by decide +kernel⟩, Nat.le_of_ble_eq_true rfl⟩
theorem lk_X11_reasonAgainstSwap : kLk yX11_reasonAgainstSwap cX11_reasonAgainstSwap 5 (some .int) 2 := ⟨kw 1432 (by decide +kernel) rfl, kw 1430 (by decide +kernel) rfl, kw 129 (by decide +kernel) rfl, ⟨by decide, by decide, by decide +kernel⟩, Nat.le_of_ble_eq_true rfl⟩
theorem lk_X11_weightUnitPrice : kLk yX11_weightUnitPrice cX11_weightUnitPrice 5 (some .int) 2 := ⟨kw 1440 (by decide +kernel) rfl, kw 1438 (by decide +kernel) rfl, kw 129 (by decide +kernel) rfl, ⟨by decide, by decide, by decide +kernel⟩, Nat.le_of_ble_eq_true rfl⟩
theorem lk_X11_bestSeat : kLk yX11_bestSeat cX11_bestSeat 4 (some .int) 2 := ⟨kw 1453 (by decide +kernel) rfl, kw 1451 (by decide +kernel) rfl, kw 129 (by decide +kernel) rfl, ⟨by decide, by decide, by decide +kernel⟩, Nat.le_of_ble_eq_true rfl⟩
theorem lk_X11_purseAfter : kLk yX11_purseAfter cX11_purseAfter 5 (some .int) 2 := ⟨kw 1465 (by decide +kernel) rfl, kw 1463 (by decide +kernel) rfl, kw 129 (by decide +kernel) rfl, ⟨by decide, by decide, by decide +kernel⟩, Nat.le_of_ble_eq_true rfl⟩
theorem lk_X11_bankAfter : kLk yX11_bankAfter cX11_bankAfter 2 (some .int) 1 := ⟨kw 1473 (by decide +kernel) rfl, kw 1471 (by decide +kernel) rfl, kw 129 (by decide +kernel) rfl, ⟨by decide, by decide, by decide +kernel⟩, Nat.le_of_ble_eq_true rfl⟩
theorem lk_X11_daysUntilFall : kLk yX11_daysUntilFall cX11_daysUntilFall 3 (some .int) 1 := ⟨kw 1480 (by decide +kernel) rfl, kw 1478 (by decide +kernel) rfl, kw 129 (by decide +kernel) rfl, ⟨by decide, by decide, by decide +kernel⟩, Nat.le_of_ble_eq_true rfl⟩
theorem lk_X11_daysUntilRetirement : kLk yX11_daysUntilRetirement cX11_daysUntilRetirement 3 (some .int) 1 := ⟨kw 1492 (by decide +kernel) rfl, kw 1490 (by decide +kernel) rfl, kw 129 (by decide +kernel) rfl, ⟨by decide, by decide, by decide +kernel⟩, Nat.le_of_ble_eq_true rfl⟩
theorem lk_X11_join : kLk yX11_join cX11_join 5 (some .int) 2 := ⟨kw 1499 (by decide +kernel) rfl, kw 1497 (by decide +kernel) rfl, kw 129 (by decide +kernel) rfl, ⟨by decide, by decide, by decide +kernel⟩, Nat.le_of_ble_eq_true rfl⟩
theorem lk_X11_buySeat : kLk yX11_buySeat cX11_buySeat 6 (some .int) 3 := ⟨kw 1509 (by decide +kernel) rfl, kw 1507 (by decide +kernel) rfl, kw 129 (by decide +kernel) rfl, ⟨by decide, by decide, by decide +kernel⟩, Nat.le_of_ble_eq_true rfl⟩
theorem lk_X11_leaveSeat : kLk yX11_leaveSeat cX11_leaveSeat 4 (some .int) 1 := ⟨kw 1521 (by decide +kernel) rfl, kw 1519 (by decide +kernel) rfl, kw 129 (by decide +kernel) rfl, ⟨by decide, by decide, by decide +kernel⟩, Nat.le_of_ble_eq_true rfl⟩
theorem lk_X11_sellWeight : kLk yX11_sellWeight cX11_sellWeight 6 (some .int) 3 := ⟨kw 1529 (by decide +kernel) rfl, kw 1527 (by decide +kernel) rfl, kw 129 (by decide +kernel) rfl, ⟨by decide, by decide, by decide +kernel⟩, Nat.le_of_ble_eq_true rfl⟩
theorem lk_X11_swapSeats : kLk yX11_swapSeats cX11_swapSeats 5 (some .int) 2 := ⟨kw 1537 (by decide +kernel) rfl, kw 1535 (by decide +kernel) rfl, kw 129 (by decide +kernel) rfl, ⟨by decide, by decide, by decide +kernel⟩, Nat.le_of_ble_eq_true rfl⟩
theorem lk_X11_setWage : kLk yX11_setWage cX11_setWage 3 (some .int) 1 := ⟨kw 1545 (by decide +kernel) rfl, kw 1543 (by decide +kernel) rfl, kw 129 (by decide +kernel) rfl, ⟨by decide, by decide, by decide +kernel⟩, Nat.le_of_ble_eq_true rfl⟩
theorem lk_X11_advance : kLk yX11_advance cX11_advance 2 (some .int) 1 := ⟨kw 1552 (by decide +kernel) rfl, kw 1550 (by decide +kernel) rfl, kw 129 (by decide +kernel) rfl, ⟨by decide, by decide, by decide +kernel⟩, Nat.le_of_ble_eq_true rfl⟩
theorem lk_X11_writeBoard : kLk yX11_writeBoard cX11_writeBoard 4 (some .int) 1 := ⟨kw 1561 (by decide +kernel) rfl, kw 1559 (by decide +kernel) rfl, kw 129 (by decide +kernel) rfl, ⟨by decide, by decide, by decide +kernel⟩, Nat.le_of_ble_eq_true rfl⟩
theorem lk_X11_undo : kLk yX11_undo cX11_undo 1 (some .int) 0 := ⟨kw 1578 (by decide +kernel) rfl, kw 1576 (by decide +kernel) rfl, kw 129 (by decide +kernel) rfl, ⟨by decide, by decide, by decide +kernel⟩, Nat.le_of_ble_eq_true rfl⟩
theorem lk_X11_save : kLk yX11_save cX11_save 3 (some .int) 1 := ⟨kw 1590 (by decide +kernel) rfl, kw 1588 (by decide +kernel) rfl, kw 129 (by decide +kernel) rfl, ⟨by decide, by decide, by decide +kernel⟩, Nat.le_of_ble_eq_true rfl⟩
theorem lk_X11_restore : kLk yX11_restore cX11_restore 3 (some .int) 1 := ⟨kw 1602 (by decide +kernel) rfl, kw 1600 (by decide +kernel) rfl, kw 129 (by decide +kernel) rfl, ⟨by decide, by decide, by decide +kernel⟩, Nat.le_of_ble_eq_true rfl⟩
def F_L_append (N : Nat) (M : kMem) (a0 : Nat) (x1 : Int32) (x2 : Int32) (x3 : Int32) (x4 : Int32) (x5 : Int32) (a6 : Nat) : Option (Int32 × kMem) :=
    kg (kt M a0 11) <| kbc (F_X11_append N M a0 x1 x2 x3 x4 x5) (fun r1 M2 =>
      kg (kin M2 a6 15 0) <| kl (ksL M2 a6 (kx 0) r1.toInt64) fun M3 =>
      some (0, M3)) (fun x M2 =>
      if x = 3 then (some (1, M2)) else none)
set_option maxRecDepth 100000 in
set_option maxHeartbeats 4000000 in
theorem k_L_append (l : Launch) (g : kG) (hf : l.flags = flags0) (N : Nat) (M : kMem) (a0 : Nat) (x1 : Int32) (x2 : Int32) (x3 : Int32) (x4 : Int32) (x5 : Int32) (a6 : Nat) : kMetH l g yL_append cL_append 8 (some .int) [(0, 16, 19, 13)] 5 1 6 [.ref a0, .int x1, .int x2, .int x3, .int x4, .int x5, .ref a6] M (fun r : Int32 × kMem => (some (.int r.1), r.2)) (F_L_append N M a0 x1 x2 x3 x4 x5 a6) := by
  refine k_ofH (lv := [(0, .ref a0), (1, .int x1), (2, .int x2), (3, .int x3), (4, .int x4), (5, .int x5), (6, .ref a6)]) RL (by decide) rfl rfl (Nat.le_of_ble_eq_true rfl) ?_
  intro p e s m args below meth c hX hr hT hN
  unfold F_L_append
  refine g_aload 2 6 hX dL_append_0 rfl rfl ?_
  refine g_iconst 3 hX 0 dL_append_2 rfl kc_i_0 ?_
  refine g_aload_n 4 0 hX dL_append_3 rfl rfl ?_
  refine g_iload_n 5 1 hX dL_append_4 rfl rfl ?_
  refine g_iload_n 6 2 hX dL_append_5 rfl rfl ?_
  refine g_iload_n 7 3 hX dL_append_6 rfl rfl ?_
  refine g_iload 9 4 hX dL_append_7 rfl rfl ?_
  refine g_iload 11 5 hX dL_append_9 rfl rfl ?_
  refine g_callVC 14 hX (k_X11_append l g hf N M a0 x1 x2 x3 x4 x5) lk_X11_append rfl (ci := 11) rfl (Nat.le_of_ble_eq_true rfl) q_1134 q_1136 (by omega) rfl (Nat.le_of_ble_eq_true rfl) (by decide) (by decide) dL_append_11 rfl (fun r1 M2 => ?_) (fun x M2 => ?_)
  · refine g_i2l 15 hX dL_append_14 rfl ?_
    refine g_last 16 hX dL_append_15 rfl ?_
    refine g_klM (fun M3 hM3 => ?_)
    refine g_goto 23 hX dL_append_16 (by decide) ?_
    refine g_iconst 24 hX 0 dL_append_23 rfl kc_i_0 ?_
    exact g_iret (b0 := ((0, M3) : Int32 × kMem)) hX hr rfl (Nat.le_refl _) (Nat.le_refl _) dL_append_24
  · refine g_xif 3 (fun hx => ?_) ?_
    · subst hx
      refine g_catch (x := 3) [] [] ⟨0, 16, 19, 13⟩ hX hT rfl (fun z hz => by cases hz) (by decide) (by decide) q_1133 (va_Nw.use rfl hX.2.2.2.2.2.2.2.2.1.2.2.2.2.2.2.2) rfl (fun q9 => ?_)
      refine g_astoreS 21 7 [(7, .retAddr q9), (0, .ref a0), (1, .int x1), (2, .int x2), (3, .int x3), (4, .int x4), (5, .int x5), (6, .ref a6)] hX dL_append_19 rfl (Nat.le_of_ble_eq_true rfl) rfl ?_
      refine g_iconst 22 hX 1 dL_append_21 rfl kc_i_1 ?_
      exact g_iret (b0 := ((1, M2) : Int32 × kMem)) hX hr rfl (Nat.le_refl _) (Nat.le_refl _) dL_append_22
    exact g_xnone
def F_L_truncate (N : Nat) (M : kMem) (a0 : Nat) (x1 : Int32) (a2 : Nat) : Option (Int32 × kMem) :=
    kg (kt M a0 11) <| kbc (F_X11_truncate N M a0 x1) (fun r1 M2 =>
      kg (kin M2 a2 15 0) <| kl (ksL M2 a2 (kx 0) r1.toInt64) fun M3 =>
      some (0, M3)) (fun x M2 =>
      if x = 2 then (some (1, M2)) else none)
set_option maxRecDepth 100000 in
set_option maxHeartbeats 4000000 in
theorem k_L_truncate (l : Launch) (g : kG) (hf : l.flags = flags0) (N : Nat) (M : kMem) (a0 : Nat) (x1 : Int32) (a2 : Nat) : kMetH l g yL_truncate cL_truncate 4 (some .int) [(0, 9, 12, 19)] 6 1 6 [.ref a0, .int x1, .ref a2] M (fun r : Int32 × kMem => (some (.int r.1), r.2)) (F_L_truncate N M a0 x1 a2) := by
  refine k_ofH (lv := [(0, .ref a0), (1, .int x1), (2, .ref a2)]) RL (by decide) rfl rfl (Nat.le_of_ble_eq_true rfl) ?_
  intro p e s m args below meth c hX hr hT hN
  unfold F_L_truncate
  refine g_aload_n 1 2 hX dL_truncate_0 rfl rfl ?_
  refine g_iconst 2 hX 0 dL_truncate_1 rfl kc_i_0 ?_
  refine g_aload_n 3 0 hX dL_truncate_2 rfl rfl ?_
  refine g_iload_n 4 1 hX dL_truncate_3 rfl rfl ?_
  refine g_callVC 7 hX (k_X11_truncate l g hf N M a0 x1) lk_X11_truncate rfl (ci := 11) rfl (Nat.le_of_ble_eq_true rfl) q_1216 q_1218 (by omega) rfl (Nat.le_of_ble_eq_true rfl) (by decide) (by decide) dL_truncate_4 rfl (fun r1 M2 => ?_) (fun x M2 => ?_)
  · refine g_i2l 8 hX dL_truncate_7 rfl ?_
    refine g_last 9 hX dL_truncate_8 rfl ?_
    refine g_klM (fun M3 hM3 => ?_)
    refine g_goto 15 hX dL_truncate_9 (by decide) ?_
    refine g_iconst 16 hX 0 dL_truncate_15 rfl kc_i_0 ?_
    exact g_iret (b0 := ((0, M3) : Int32 × kMem)) hX hr rfl (Nat.le_refl _) (Nat.le_refl _) dL_truncate_16
  · refine g_xif 2 (fun hx => ?_) ?_
    · subst hx
      refine g_catch (x := 2) [] [] ⟨0, 9, 12, 19⟩ hX hT rfl (fun z hz => by cases hz) (by decide) (by decide) q_1215 (va_Nw.use rfl hX.2.2.2.2.2.2.2.2.1.2.2.2.2.2.2.1) rfl (fun q9 => ?_)
      refine g_astoreS_n 13 3 [(3, .retAddr q9), (0, .ref a0), (1, .int x1), (2, .ref a2)] hX dL_truncate_12 rfl rfl (Nat.le_of_ble_eq_true rfl) rfl ?_
      refine g_iconst 14 hX 1 dL_truncate_13 rfl kc_i_1 ?_
      exact g_iret (b0 := ((1, M2) : Int32 × kMem)) hX hr rfl (Nat.le_refl _) (Nat.le_refl _) dL_truncate_14
    exact g_xnone
def F_L_armLength (N : Nat) (M : kMem) (a0 : Nat) (x1 : Int32) (a2 : Nat) : Option (Int32 × kMem) :=
    kg (kt M a0 11) <| kbc (F_X11_armLength N M a0 x1) (fun r1 M2 =>
      kg (kin M2 a2 15 0) <| kl (ksL M2 a2 (kx 0) r1.toInt64) fun M3 =>
      some (0, M3)) (fun x M2 =>
      if x = 1 then (some (1, M2)) else none)
set_option maxRecDepth 100000 in
set_option maxHeartbeats 4000000 in
theorem k_L_armLength (l : Launch) (g : kG) (hf : l.flags = flags0) (N : Nat) (M : kMem) (a0 : Nat) (x1 : Int32) (a2 : Nat) : kMetH l g yL_armLength cL_armLength 4 (some .int) [(0, 9, 12, 24)] 6 1 6 [.ref a0, .int x1, .ref a2] M (fun r : Int32 × kMem => (some (.int r.1), r.2)) (F_L_armLength N M a0 x1 a2) := by
  refine k_ofH (lv := [(0, .ref a0), (1, .int x1), (2, .ref a2)]) RL (by decide) rfl rfl (Nat.le_of_ble_eq_true rfl) ?_
  intro p e s m args below meth c hX hr hT hN
  unfold F_L_armLength
  refine g_aload_n 1 2 hX dL_armLength_0 rfl rfl ?_
  refine g_iconst 2 hX 0 dL_armLength_1 rfl kc_i_0 ?_
  refine g_aload_n 3 0 hX dL_armLength_2 rfl rfl ?_
  refine g_iload_n 4 1 hX dL_armLength_3 rfl rfl ?_
  refine g_callVC 7 hX (k_X11_armLength l g hf N M a0 x1) lk_X11_armLength rfl (ci := 11) rfl (Nat.le_of_ble_eq_true rfl) q_1243 q_1245 (by omega) rfl (Nat.le_of_ble_eq_true rfl) (by decide) (by decide) dL_armLength_4 rfl (fun r1 M2 => ?_) (fun x M2 => ?_)
  · refine g_i2l 8 hX dL_armLength_7 rfl ?_
    refine g_last 9 hX dL_armLength_8 rfl ?_
    refine g_klM (fun M3 hM3 => ?_)
    refine g_goto 15 hX dL_armLength_9 (by decide) ?_
    refine g_iconst 16 hX 0 dL_armLength_15 rfl kc_i_0 ?_
    exact g_iret (b0 := ((0, M3) : Int32 × kMem)) hX hr rfl (Nat.le_refl _) (Nat.le_refl _) dL_armLength_16
  · refine g_xif 1 (fun hx => ?_) ?_
    · subst hx
      refine g_catch (x := 1) [] [] ⟨0, 9, 12, 24⟩ hX hT rfl (fun z hz => by cases hz) (by decide) (by decide) q_1242 (va_Nw.use rfl hX.2.2.2.2.2.2.2.2.1.2.2.2.2.2.1) rfl (fun q9 => ?_)
      refine g_astoreS_n 13 3 [(3, .retAddr q9), (0, .ref a0), (1, .int x1), (2, .ref a2)] hX dL_armLength_12 rfl rfl (Nat.le_of_ble_eq_true rfl) rfl ?_
      refine g_iconst 14 hX 1 dL_armLength_13 rfl kc_i_1 ?_
      exact g_iret (b0 := ((1, M2) : Int32 × kMem)) hX hr rfl (Nat.le_refl _) (Nat.le_refl _) dL_armLength_14
    exact g_xnone
def F_L_stiffness (N : Nat) (M : kMem) (a0 : Nat) (x1 : Int32) (a2 : Nat) : Option (Int32 × kMem) :=
    kg (kt M a0 11) <| kbc (F_X11_stiffness N M a0 x1) (fun r1 M2 =>
      kg (kin M2 a2 15 0) <| kl (ksL M2 a2 (kx 0) r1.toInt64) fun M3 =>
      some (0, M3)) (fun x M2 =>
      if x = 1 then (some (1, M2)) else none)
set_option maxRecDepth 100000 in
set_option maxHeartbeats 4000000 in
theorem k_L_stiffness (l : Launch) (g : kG) (hf : l.flags = flags0) (N : Nat) (M : kMem) (a0 : Nat) (x1 : Int32) (a2 : Nat) : kMetH l g yL_stiffness cL_stiffness 4 (some .int) [(0, 9, 12, 24)] 6 1 6 [.ref a0, .int x1, .ref a2] M (fun r : Int32 × kMem => (some (.int r.1), r.2)) (F_L_stiffness N M a0 x1 a2) := by
  refine k_ofH (lv := [(0, .ref a0), (1, .int x1), (2, .ref a2)]) RL (by decide) rfl rfl (Nat.le_of_ble_eq_true rfl) ?_
  intro p e s m args below meth c hX hr hT hN
  unfold F_L_stiffness
  refine g_aload_n 1 2 hX dL_stiffness_0 rfl rfl ?_
  refine g_iconst 2 hX 0 dL_stiffness_1 rfl kc_i_0 ?_
  refine g_aload_n 3 0 hX dL_stiffness_2 rfl rfl ?_
  refine g_iload_n 4 1 hX dL_stiffness_3 rfl rfl ?_
  refine g_callVC 7 hX (k_X11_stiffness l g hf N M a0 x1) lk_X11_stiffness rfl (ci := 11) rfl (Nat.le_of_ble_eq_true rfl) q_1271 q_1273 (by omega) rfl (Nat.le_of_ble_eq_true rfl) (by decide) (by decide) dL_stiffness_4 rfl (fun r1 M2 => ?_) (fun x M2 => ?_)
  · refine g_i2l 8 hX dL_stiffness_7 rfl ?_
    refine g_last 9 hX dL_stiffness_8 rfl ?_
    refine g_klM (fun M3 hM3 => ?_)
    refine g_goto 15 hX dL_stiffness_9 (by decide) ?_
    refine g_iconst 16 hX 0 dL_stiffness_15 rfl kc_i_0 ?_
    exact g_iret (b0 := ((0, M3) : Int32 × kMem)) hX hr rfl (Nat.le_refl _) (Nat.le_refl _) dL_stiffness_16
  · refine g_xif 1 (fun hx => ?_) ?_
    · subst hx
      refine g_catch (x := 1) [] [] ⟨0, 9, 12, 24⟩ hX hT rfl (fun z hz => by cases hz) (by decide) (by decide) q_1242 (va_Nw.use rfl hX.2.2.2.2.2.2.2.2.1.2.2.2.2.2.1) rfl (fun q9 => ?_)
      refine g_astoreS_n 13 3 [(3, .retAddr q9), (0, .ref a0), (1, .int x1), (2, .ref a2)] hX dL_stiffness_12 rfl rfl (Nat.le_of_ble_eq_true rfl) rfl ?_
      refine g_iconst 14 hX 1 dL_stiffness_13 rfl kc_i_1 ?_
      exact g_iret (b0 := ((1, M2) : Int32 × kMem)) hX hr rfl (Nat.le_refl _) (Nat.le_refl _) dL_stiffness_14
    exact g_xnone
def F_L_torque (N : Nat) (M : kMem) (a0 : Nat) (x1 : Int32) (a2 : Nat) : Option (Int32 × kMem) :=
    kg (kt M a0 11) <| kbc (F_X11_torque N M a0 x1) (fun r1 M2 =>
      kg (kin M2 a2 15 0) <| kl (ksL M2 a2 (kx 0) r1.toInt64) fun M3 =>
      some (0, M3)) (fun x M2 =>
      if x = 1 then (some (1, M2)) else none)
set_option maxRecDepth 100000 in
set_option maxHeartbeats 4000000 in
theorem k_L_torque (l : Launch) (g : kG) (hf : l.flags = flags0) (N : Nat) (M : kMem) (a0 : Nat) (x1 : Int32) (a2 : Nat) : kMetH l g yL_torque cL_torque 4 (some .int) [(0, 9, 12, 24)] 6 1 6 [.ref a0, .int x1, .ref a2] M (fun r : Int32 × kMem => (some (.int r.1), r.2)) (F_L_torque N M a0 x1 a2) := by
  refine k_ofH (lv := [(0, .ref a0), (1, .int x1), (2, .ref a2)]) RL (by decide) rfl rfl (Nat.le_of_ble_eq_true rfl) ?_
  intro p e s m args below meth c hX hr hT hN
  unfold F_L_torque
  refine g_aload_n 1 2 hX dL_torque_0 rfl rfl ?_
  refine g_iconst 2 hX 0 dL_torque_1 rfl kc_i_0 ?_
  refine g_aload_n 3 0 hX dL_torque_2 rfl rfl ?_
  refine g_iload_n 4 1 hX dL_torque_3 rfl rfl ?_
  refine g_callVC 7 hX (k_X11_torque l g hf N M a0 x1) lk_X11_torque rfl (ci := 11) rfl (Nat.le_of_ble_eq_true rfl) q_1278 q_1280 (by omega) rfl (Nat.le_of_ble_eq_true rfl) (by decide) (by decide) dL_torque_4 rfl (fun r1 M2 => ?_) (fun x M2 => ?_)
  · refine g_i2l 8 hX dL_torque_7 rfl ?_
    refine g_last 9 hX dL_torque_8 rfl ?_
    refine g_klM (fun M3 hM3 => ?_)
    refine g_goto 15 hX dL_torque_9 (by decide) ?_
    refine g_iconst 16 hX 0 dL_torque_15 rfl kc_i_0 ?_
    exact g_iret (b0 := ((0, M3) : Int32 × kMem)) hX hr rfl (Nat.le_refl _) (Nat.le_refl _) dL_torque_16
  · refine g_xif 1 (fun hx => ?_) ?_
    · subst hx
      refine g_catch (x := 1) [] [] ⟨0, 9, 12, 24⟩ hX hT rfl (fun z hz => by cases hz) (by decide) (by decide) q_1242 (va_Nw.use rfl hX.2.2.2.2.2.2.2.2.1.2.2.2.2.2.1) rfl (fun q9 => ?_)
      refine g_astoreS_n 13 3 [(3, .retAddr q9), (0, .ref a0), (1, .int x1), (2, .ref a2)] hX dL_torque_12 rfl rfl (Nat.le_of_ble_eq_true rfl) rfl ?_
      refine g_iconst 14 hX 1 dL_torque_13 rfl kc_i_1 ?_
      exact g_iret (b0 := ((1, M2) : Int32 × kMem)) hX hr rfl (Nat.le_refl _) (Nat.le_refl _) dL_torque_14
    exact g_xnone
def F_L_tilt (N : Nat) (M : kMem) (a0 : Nat) (x1 : Int32) (a2 : Nat) : Option (Int32 × kMem) :=
    kg (kt M a0 11) <| kbc (F_X11_tilt N M a0 x1) (fun r1 M2 =>
      kg (kin M2 a2 15 0) <| kl (ksL M2 a2 (kx 0) r1.toInt64) fun M3 =>
      some (0, M3)) (fun x M2 =>
      if x = 1 then (some (1, M2)) else none)
set_option maxRecDepth 100000 in
set_option maxHeartbeats 4000000 in
theorem k_L_tilt (l : Launch) (g : kG) (hf : l.flags = flags0) (N : Nat) (M : kMem) (a0 : Nat) (x1 : Int32) (a2 : Nat) : kMetH l g yL_tilt cL_tilt 4 (some .int) [(0, 9, 12, 24)] 6 1 6 [.ref a0, .int x1, .ref a2] M (fun r : Int32 × kMem => (some (.int r.1), r.2)) (F_L_tilt N M a0 x1 a2) := by
  refine k_ofH (lv := [(0, .ref a0), (1, .int x1), (2, .ref a2)]) RL (by decide) rfl rfl (Nat.le_of_ble_eq_true rfl) ?_
  intro p e s m args below meth c hX hr hT hN
  unfold F_L_tilt
  refine g_aload_n 1 2 hX dL_tilt_0 rfl rfl ?_
  refine g_iconst 2 hX 0 dL_tilt_1 rfl kc_i_0 ?_
  refine g_aload_n 3 0 hX dL_tilt_2 rfl rfl ?_
  refine g_iload_n 4 1 hX dL_tilt_3 rfl rfl ?_
  refine g_callVC 7 hX (k_X11_tilt l g hf N M a0 x1) lk_X11_tilt rfl (ci := 11) rfl (Nat.le_of_ble_eq_true rfl) q_1286 q_1288 (by omega) rfl (Nat.le_of_ble_eq_true rfl) (by decide) (by decide) dL_tilt_4 rfl (fun r1 M2 => ?_) (fun x M2 => ?_)
  · refine g_i2l 8 hX dL_tilt_7 rfl ?_
    refine g_last 9 hX dL_tilt_8 rfl ?_
    refine g_klM (fun M3 hM3 => ?_)
    refine g_goto 15 hX dL_tilt_9 (by decide) ?_
    refine g_iconst 16 hX 0 dL_tilt_15 rfl kc_i_0 ?_
    exact g_iret (b0 := ((0, M3) : Int32 × kMem)) hX hr rfl (Nat.le_refl _) (Nat.le_refl _) dL_tilt_16
  · refine g_xif 1 (fun hx => ?_) ?_
    · subst hx
      refine g_catch (x := 1) [] [] ⟨0, 9, 12, 24⟩ hX hT rfl (fun z hz => by cases hz) (by decide) (by decide) q_1242 (va_Nw.use rfl hX.2.2.2.2.2.2.2.2.1.2.2.2.2.2.1) rfl (fun q9 => ?_)
      refine g_astoreS_n 13 3 [(3, .retAddr q9), (0, .ref a0), (1, .int x1), (2, .ref a2)] hX dL_tilt_12 rfl rfl (Nat.le_of_ble_eq_true rfl) rfl ?_
      refine g_iconst 14 hX 1 dL_tilt_13 rfl kc_i_1 ?_
      exact g_iret (b0 := ((1, M2) : Int32 × kMem)) hX hr rfl (Nat.le_refl _) (Nat.le_refl _) dL_tilt_14
    exact g_xnone
def F_L_isBalanced (N : Nat) (M : kMem) (a0 : Nat) (x1 : Int32) (a2 : Nat) : Option (Int32 × kMem) :=
    kg (kt M a0 11) <| kbc (F_X11_isBalanced N M a0 x1) (fun r1 M2 =>
      if r1 = 0 then (
        kg (kin M2 a2 15 0) <| kl (ksL M2 a2 (kx 0) 0) fun M3 =>
        some (0, M3)) else
      kg (kin M2 a2 15 0) <| kl (ksL M2 a2 (kx 0) 1) fun M4 =>
      some (0, M4)) (fun x M2 =>
      if x = 1 then (some (1, M2)) else none)
set_option maxRecDepth 100000 in
set_option maxHeartbeats 4000000 in
theorem k_L_isBalanced (l : Launch) (g : kG) (hf : l.flags = flags0) (N : Nat) (M : kMem) (a0 : Nat) (x1 : Int32) (a2 : Nat) : kMetH l g yL_isBalanced cL_isBalanced 4 (some .int) [(0, 16, 19, 24)] 6 1 6 [.ref a0, .int x1, .ref a2] M (fun r : Int32 × kMem => (some (.int r.1), r.2)) (F_L_isBalanced N M a0 x1 a2) := by
  refine k_ofH (lv := [(0, .ref a0), (1, .int x1), (2, .ref a2)]) RL (by decide) rfl rfl (Nat.le_of_ble_eq_true rfl) ?_
  intro p e s m args below meth c hX hr hT hN
  unfold F_L_isBalanced
  refine g_aload_n 1 2 hX dL_isBalanced_0 rfl rfl ?_
  refine g_iconst 2 hX 0 dL_isBalanced_1 rfl kc_i_0 ?_
  refine g_aload_n 3 0 hX dL_isBalanced_2 rfl rfl ?_
  refine g_iload_n 4 1 hX dL_isBalanced_3 rfl rfl ?_
  refine g_callVC 7 hX (k_X11_isBalanced l g hf N M a0 x1) lk_X11_isBalanced rfl (ci := 11) rfl (Nat.le_of_ble_eq_true rfl) q_1294 q_1296 (by omega) rfl (Nat.le_of_ble_eq_true rfl) (by decide) (by decide) dL_isBalanced_4 rfl (fun r1 M2 => ?_) (fun x M2 => ?_)
  · refine g_if_eq 14 10 hX dL_isBalanced_7 (by decide) rfl (fun _ => ?_) (fun _ => ?_)
    · refine g_lconst 15 hX 0 dL_isBalanced_14 rfl rfl ?_
      refine g_last 16 hX dL_isBalanced_15 rfl ?_
      refine g_klM (fun M3 hM3 => ?_)
      refine g_goto 22 hX dL_isBalanced_16 (by decide) ?_
      refine g_iconst 23 hX 0 dL_isBalanced_22 rfl kc_i_0 ?_
      exact g_iret (b0 := ((0, M3) : Int32 × kMem)) hX hr rfl (Nat.le_refl _) (Nat.le_refl _) dL_isBalanced_23
    · refine g_lconst 11 hX 1 dL_isBalanced_10 rfl rfl ?_
      refine g_goto 15 hX dL_isBalanced_11 (by decide) ?_
      refine g_last 16 hX dL_isBalanced_15 rfl ?_
      refine g_klM (fun M4 hM4 => ?_)
      refine g_goto 22 hX dL_isBalanced_16 (by decide) ?_
      refine g_iconst 23 hX 0 dL_isBalanced_22 rfl kc_i_0 ?_
      exact g_iret (b0 := ((0, M4) : Int32 × kMem)) hX hr rfl (Nat.le_refl _) (Nat.le_refl _) dL_isBalanced_23
  · refine g_xif 1 (fun hx => ?_) ?_
    · subst hx
      refine g_catch (x := 1) [] [] ⟨0, 16, 19, 24⟩ hX hT rfl (fun z hz => by cases hz) (by decide) (by decide) q_1242 (va_Nw.use rfl hX.2.2.2.2.2.2.2.2.1.2.2.2.2.2.1) rfl (fun q9 => ?_)
      refine g_astoreS_n 20 3 [(3, .retAddr q9), (0, .ref a0), (1, .int x1), (2, .ref a2)] hX dL_isBalanced_19 rfl rfl (Nat.le_of_ble_eq_true rfl) rfl ?_
      refine g_iconst 21 hX 1 dL_isBalanced_20 rfl kc_i_1 ?_
      exact g_iret (b0 := ((1, M2) : Int32 × kMem)) hX hr rfl (Nat.le_refl _) (Nat.le_refl _) dL_isBalanced_21
    exact g_xnone
def F_L_seatOwner (N : Nat) (M : kMem) (a0 : Nat) (x1 : Int32) (x2 : Int32) (a3 : Nat) : Option (Int32 × kMem) :=
    kg (kt M a0 11) <| kbc (F_X11_seatOwner N M a0 x1 x2) (fun r1 M2 =>
      kg (kin M2 a3 15 0) <| kl (ksL M2 a3 (kx 0) r1.toInt64) fun M3 =>
      some (0, M3)) (fun x M2 =>
      if x = 1 then (some (1, M2)) else none)
set_option maxRecDepth 100000 in
set_option maxHeartbeats 4000000 in
theorem k_L_seatOwner (l : Launch) (g : kG) (hf : l.flags = flags0) (N : Nat) (M : kMem) (a0 : Nat) (x1 : Int32) (x2 : Int32) (a3 : Nat) : kMetH l g yL_seatOwner cL_seatOwner 5 (some .int) [(0, 10, 13, 24)] 7 2 12 [.ref a0, .int x1, .int x2, .ref a3] M (fun r : Int32 × kMem => (some (.int r.1), r.2)) (F_L_seatOwner N M a0 x1 x2 a3) := by
  refine k_ofH (lv := [(0, .ref a0), (1, .int x1), (2, .int x2), (3, .ref a3)]) RL (by decide) rfl rfl (Nat.le_of_ble_eq_true rfl) ?_
  intro p e s m args below meth c hX hr hT hN
  unfold F_L_seatOwner
  refine g_aload_n 1 3 hX dL_seatOwner_0 rfl rfl ?_
  refine g_iconst 2 hX 0 dL_seatOwner_1 rfl kc_i_0 ?_
  refine g_aload_n 3 0 hX dL_seatOwner_2 rfl rfl ?_
  refine g_iload_n 4 1 hX dL_seatOwner_3 rfl rfl ?_
  refine g_iload_n 5 2 hX dL_seatOwner_4 rfl rfl ?_
  refine g_callVC 8 hX (k_X11_seatOwner l g hf N M a0 x1 x2) lk_X11_seatOwner rfl (ci := 11) rfl (Nat.le_of_ble_eq_true rfl) q_1301 q_1303 (by omega) rfl (Nat.le_of_ble_eq_true rfl) (by decide) (by decide) dL_seatOwner_5 rfl (fun r1 M2 => ?_) (fun x M2 => ?_)
  · refine g_i2l 9 hX dL_seatOwner_8 rfl ?_
    refine g_last 10 hX dL_seatOwner_9 rfl ?_
    refine g_klM (fun M3 hM3 => ?_)
    refine g_goto 17 hX dL_seatOwner_10 (by decide) ?_
    refine g_iconst 18 hX 0 dL_seatOwner_17 rfl kc_i_0 ?_
    exact g_iret (b0 := ((0, M3) : Int32 × kMem)) hX hr rfl (Nat.le_refl _) (Nat.le_refl _) dL_seatOwner_18
  · refine g_xif 1 (fun hx => ?_) ?_
    · subst hx
      refine g_catch (x := 1) [] [] ⟨0, 10, 13, 24⟩ hX hT rfl (fun z hz => by cases hz) (by decide) (by decide) q_1242 (va_Nw.use rfl hX.2.2.2.2.2.2.2.2.1.2.2.2.2.2.1) rfl (fun q9 => ?_)
      refine g_astoreS 15 4 [(4, .retAddr q9), (0, .ref a0), (1, .int x1), (2, .int x2), (3, .ref a3)] hX dL_seatOwner_13 rfl (Nat.le_of_ble_eq_true rfl) rfl ?_
      refine g_iconst 16 hX 1 dL_seatOwner_15 rfl kc_i_1 ?_
      exact g_iret (b0 := ((1, M2) : Int32 × kMem)) hX hr rfl (Nat.le_refl _) (Nat.le_refl _) dL_seatOwner_16
    exact g_xnone
def F_L_seatHeight (N : Nat) (M : kMem) (a0 : Nat) (x1 : Int32) (x2 : Int32) (a3 : Nat) : Option (Int32 × kMem) :=
    kg (kt M a0 11) <| kbc (F_X11_seatHeight N M a0 x1 x2) (fun r1 M2 =>
      kg (kin M2 a3 15 0) <| kl (ksL M2 a3 (kx 0) r1.toInt64) fun M3 =>
      some (0, M3)) (fun x M2 =>
      if x = 1 then (some (1, M2)) else none)
set_option maxRecDepth 100000 in
set_option maxHeartbeats 4000000 in
theorem k_L_seatHeight (l : Launch) (g : kG) (hf : l.flags = flags0) (N : Nat) (M : kMem) (a0 : Nat) (x1 : Int32) (x2 : Int32) (a3 : Nat) : kMetH l g yL_seatHeight cL_seatHeight 5 (some .int) [(0, 10, 13, 24)] 7 2 12 [.ref a0, .int x1, .int x2, .ref a3] M (fun r : Int32 × kMem => (some (.int r.1), r.2)) (F_L_seatHeight N M a0 x1 x2 a3) := by
  refine k_ofH (lv := [(0, .ref a0), (1, .int x1), (2, .int x2), (3, .ref a3)]) RL (by decide) rfl rfl (Nat.le_of_ble_eq_true rfl) ?_
  intro p e s m args below meth c hX hr hT hN
  unfold F_L_seatHeight
  refine g_aload_n 1 3 hX dL_seatHeight_0 rfl rfl ?_
  refine g_iconst 2 hX 0 dL_seatHeight_1 rfl kc_i_0 ?_
  refine g_aload_n 3 0 hX dL_seatHeight_2 rfl rfl ?_
  refine g_iload_n 4 1 hX dL_seatHeight_3 rfl rfl ?_
  refine g_iload_n 5 2 hX dL_seatHeight_4 rfl rfl ?_
  refine g_callVC 8 hX (k_X11_seatHeight l g hf N M a0 x1 x2) lk_X11_seatHeight rfl (ci := 11) rfl (Nat.le_of_ble_eq_true rfl) q_1315 q_1317 (by omega) rfl (Nat.le_of_ble_eq_true rfl) (by decide) (by decide) dL_seatHeight_5 rfl (fun r1 M2 => ?_) (fun x M2 => ?_)
  · refine g_i2l 9 hX dL_seatHeight_8 rfl ?_
    refine g_last 10 hX dL_seatHeight_9 rfl ?_
    refine g_klM (fun M3 hM3 => ?_)
    refine g_goto 17 hX dL_seatHeight_10 (by decide) ?_
    refine g_iconst 18 hX 0 dL_seatHeight_17 rfl kc_i_0 ?_
    exact g_iret (b0 := ((0, M3) : Int32 × kMem)) hX hr rfl (Nat.le_refl _) (Nat.le_refl _) dL_seatHeight_18
  · refine g_xif 1 (fun hx => ?_) ?_
    · subst hx
      refine g_catch (x := 1) [] [] ⟨0, 10, 13, 24⟩ hX hT rfl (fun z hz => by cases hz) (by decide) (by decide) q_1242 (va_Nw.use rfl hX.2.2.2.2.2.2.2.2.1.2.2.2.2.2.1) rfl (fun q9 => ?_)
      refine g_astoreS 15 4 [(4, .retAddr q9), (0, .ref a0), (1, .int x1), (2, .int x2), (3, .ref a3)] hX dL_seatHeight_13 rfl (Nat.le_of_ble_eq_true rfl) rfl ?_
      refine g_iconst 16 hX 1 dL_seatHeight_15 rfl kc_i_1 ?_
      exact g_iret (b0 := ((1, M2) : Int32 × kMem)) hX hr rfl (Nat.le_refl _) (Nat.le_refl _) dL_seatHeight_16
    exact g_xnone
def F_L_seatPrice (N : Nat) (M : kMem) (a0 : Nat) (x1 : Int32) (x2 : Int32) (a3 : Nat) : Option (Int32 × kMem) :=
    kg (kt M a0 11) <| kbc (F_X11_seatPrice N M a0 x1 x2) (fun r1 M2 =>
      kg (kin M2 a3 15 0) <| kl (ksL M2 a3 (kx 0) r1.toInt64) fun M3 =>
      some (0, M3)) (fun x M2 =>
      if x = 1 then (some (1, M2)) else none)
set_option maxRecDepth 100000 in
set_option maxHeartbeats 4000000 in
theorem k_L_seatPrice (l : Launch) (g : kG) (hf : l.flags = flags0) (N : Nat) (M : kMem) (a0 : Nat) (x1 : Int32) (x2 : Int32) (a3 : Nat) : kMetH l g yL_seatPrice cL_seatPrice 5 (some .int) [(0, 10, 13, 24)] 7 2 12 [.ref a0, .int x1, .int x2, .ref a3] M (fun r : Int32 × kMem => (some (.int r.1), r.2)) (F_L_seatPrice N M a0 x1 x2 a3) := by
  refine k_ofH (lv := [(0, .ref a0), (1, .int x1), (2, .int x2), (3, .ref a3)]) RL (by decide) rfl rfl (Nat.le_of_ble_eq_true rfl) ?_
  intro p e s m args below meth c hX hr hT hN
  unfold F_L_seatPrice
  refine g_aload_n 1 3 hX dL_seatPrice_0 rfl rfl ?_
  refine g_iconst 2 hX 0 dL_seatPrice_1 rfl kc_i_0 ?_
  refine g_aload_n 3 0 hX dL_seatPrice_2 rfl rfl ?_
  refine g_iload_n 4 1 hX dL_seatPrice_3 rfl rfl ?_
  refine g_iload_n 5 2 hX dL_seatPrice_4 rfl rfl ?_
  refine g_callVC 8 hX (k_X11_seatPrice l g hf N M a0 x1 x2) lk_X11_seatPrice rfl (ci := 11) rfl (Nat.le_of_ble_eq_true rfl) q_1323 q_1325 (by omega) rfl (Nat.le_of_ble_eq_true rfl) (by decide) (by decide) dL_seatPrice_5 rfl (fun r1 M2 => ?_) (fun x M2 => ?_)
  · refine g_i2l 9 hX dL_seatPrice_8 rfl ?_
    refine g_last 10 hX dL_seatPrice_9 rfl ?_
    refine g_klM (fun M3 hM3 => ?_)
    refine g_goto 17 hX dL_seatPrice_10 (by decide) ?_
    refine g_iconst 18 hX 0 dL_seatPrice_17 rfl kc_i_0 ?_
    exact g_iret (b0 := ((0, M3) : Int32 × kMem)) hX hr rfl (Nat.le_refl _) (Nat.le_refl _) dL_seatPrice_18
  · refine g_xif 1 (fun hx => ?_) ?_
    · subst hx
      refine g_catch (x := 1) [] [] ⟨0, 10, 13, 24⟩ hX hT rfl (fun z hz => by cases hz) (by decide) (by decide) q_1242 (va_Nw.use rfl hX.2.2.2.2.2.2.2.2.1.2.2.2.2.2.1) rfl (fun q9 => ?_)
      refine g_astoreS 15 4 [(4, .retAddr q9), (0, .ref a0), (1, .int x1), (2, .int x2), (3, .ref a3)] hX dL_seatPrice_13 rfl (Nat.le_of_ble_eq_true rfl) rfl ?_
      refine g_iconst 16 hX 1 dL_seatPrice_15 rfl kc_i_1 ?_
      exact g_iret (b0 := ((1, M2) : Int32 × kMem)) hX hr rfl (Nat.le_refl _) (Nat.le_refl _) dL_seatPrice_16
    exact g_xnone
def F_L_balancingSeat (N : Nat) (M : kMem) (a0 : Nat) (x1 : Int32) (x2 : Int32) (a3 : Nat) : Option (Int32 × kMem) :=
    kg (kt M a0 11) <| kbc (F_X11_balancingSeat N M a0 x1 x2) (fun r1 M2 =>
      kg (kin M2 a3 15 0) <| kl (ksL M2 a3 (kx 0) r1.toInt64) fun M3 =>
      some (0, M3)) (fun x M2 =>
      if x = 1 then (some (1, M2)) else if x = 2 then (some (2, M2)) else none)
set_option maxRecDepth 100000 in
set_option maxHeartbeats 4000000 in
theorem k_L_balancingSeat (l : Launch) (g : kG) (hf : l.flags = flags0) (N : Nat) (M : kMem) (a0 : Nat) (x1 : Int32) (x2 : Int32) (a3 : Nat) : kMetH l g yL_balancingSeat cL_balancingSeat 5 (some .int) [(0, 10, 13, 24), (0, 10, 17, 19)] 6 2 12 [.ref a0, .int x1, .int x2, .ref a3] M (fun r : Int32 × kMem => (some (.int r.1), r.2)) (F_L_balancingSeat N M a0 x1 x2 a3) := by
  refine k_ofH (lv := [(0, .ref a0), (1, .int x1), (2, .int x2), (3, .ref a3)]) RL (by decide) rfl rfl (Nat.le_of_ble_eq_true rfl) ?_
  intro p e s m args below meth c hX hr hT hN
  unfold F_L_balancingSeat
  refine g_aload_n 1 3 hX dL_balancingSeat_0 rfl rfl ?_
  refine g_iconst 2 hX 0 dL_balancingSeat_1 rfl kc_i_0 ?_
  refine g_aload_n 3 0 hX dL_balancingSeat_2 rfl rfl ?_
  refine g_iload_n 4 1 hX dL_balancingSeat_3 rfl rfl ?_
  refine g_iload_n 5 2 hX dL_balancingSeat_4 rfl rfl ?_
  refine g_callVC 8 hX (k_X11_balancingSeat l g hf N M a0 x1 x2) lk_X11_balancingSeat rfl (ci := 11) rfl (Nat.le_of_ble_eq_true rfl) q_1331 q_1333 (by omega) rfl (Nat.le_of_ble_eq_true rfl) (by decide) (by decide) dL_balancingSeat_5 rfl (fun r1 M2 => ?_) (fun x M2 => ?_)
  · refine g_i2l 9 hX dL_balancingSeat_8 rfl ?_
    refine g_last 10 hX dL_balancingSeat_9 rfl ?_
    refine g_klM (fun M3 hM3 => ?_)
    refine g_goto 21 hX dL_balancingSeat_10 (by decide) ?_
    refine g_iconst 22 hX 0 dL_balancingSeat_21 rfl kc_i_0 ?_
    exact g_iret (b0 := ((0, M3) : Int32 × kMem)) hX hr rfl (Nat.le_refl _) (Nat.le_refl _) dL_balancingSeat_22
  · refine g_xif 1 (fun hx => ?_) ?_
    · subst hx
      refine g_catch (x := 1) [] [⟨0, 10, 17, 19⟩] ⟨0, 10, 13, 24⟩ hX hT rfl (fun z hz => by cases hz) (by decide) (by decide) q_1242 (va_Nw.use rfl hX.2.2.2.2.2.2.2.2.1.2.2.2.2.2.1) rfl (fun q9 => ?_)
      refine g_astoreS 15 4 [(4, .retAddr q9), (0, .ref a0), (1, .int x1), (2, .int x2), (3, .ref a3)] hX dL_balancingSeat_13 rfl (Nat.le_of_ble_eq_true rfl) rfl ?_
      refine g_iconst 16 hX 1 dL_balancingSeat_15 rfl kc_i_1 ?_
      exact g_iret (b0 := ((1, M2) : Int32 × kMem)) hX hr rfl (Nat.le_refl _) (Nat.le_refl _) dL_balancingSeat_16
    refine g_xif 2 (fun hx => ?_) ?_
    · subst hx
      refine g_catch (x := 2) [⟨0, 10, 13, 24⟩] [] ⟨0, 10, 17, 19⟩ hX hT rfl (fun z hz => by cases List.mem_singleton.mp hz; exact Or.inr ⟨by decide, "java/lang/IndexOutOfBoundsException", q_1242, hN.1⟩) (by decide) (by decide) q_1215 (va_Nw.use rfl hX.2.2.2.2.2.2.2.2.1.2.2.2.2.2.2.1) rfl (fun q9 => ?_)
      refine g_astoreS 19 4 [(4, .retAddr q9), (0, .ref a0), (1, .int x1), (2, .int x2), (3, .ref a3)] hX dL_balancingSeat_17 rfl (Nat.le_of_ble_eq_true rfl) rfl ?_
      refine g_iconst 20 hX 2 dL_balancingSeat_19 rfl kc_i_2 ?_
      exact g_iret (b0 := ((2, M2) : Int32 × kMem)) hX hr rfl (Nat.le_refl _) (Nat.le_refl _) dL_balancingSeat_20
    exact g_xnone
def F_L_nameLetter (N : Nat) (M : kMem) (a0 : Nat) (x1 : Int32) (x2 : Int32) (a3 : Nat) : Option (Int32 × kMem) :=
    kg (kt M a0 11) <| kbc (F_X11_nameLetter N M a0 x1 x2) (fun r1 M2 =>
      kg (kin M2 a3 15 0) <| kl (ksL M2 a3 (kx 0) r1.toInt64) fun M3 =>
      some (0, M3)) (fun x M2 =>
      if x = 1 then (some (1, M2)) else none)
set_option maxRecDepth 100000 in
set_option maxHeartbeats 4000000 in
theorem k_L_nameLetter (l : Launch) (g : kG) (hf : l.flags = flags0) (N : Nat) (M : kMem) (a0 : Nat) (x1 : Int32) (x2 : Int32) (a3 : Nat) : kMetH l g yL_nameLetter cL_nameLetter 5 (some .int) [(0, 10, 13, 24)] 6 1 6 [.ref a0, .int x1, .int x2, .ref a3] M (fun r : Int32 × kMem => (some (.int r.1), r.2)) (F_L_nameLetter N M a0 x1 x2 a3) := by
  refine k_ofH (lv := [(0, .ref a0), (1, .int x1), (2, .int x2), (3, .ref a3)]) RL (by decide) rfl rfl (Nat.le_of_ble_eq_true rfl) ?_
  intro p e s m args below meth c hX hr hT hN
  unfold F_L_nameLetter
  refine g_aload_n 1 3 hX dL_nameLetter_0 rfl rfl ?_
  refine g_iconst 2 hX 0 dL_nameLetter_1 rfl kc_i_0 ?_
  refine g_aload_n 3 0 hX dL_nameLetter_2 rfl rfl ?_
  refine g_iload_n 4 1 hX dL_nameLetter_3 rfl rfl ?_
  refine g_iload_n 5 2 hX dL_nameLetter_4 rfl rfl ?_
  refine g_callVC 8 hX (k_X11_nameLetter l g hf N M a0 x1 x2) lk_X11_nameLetter rfl (ci := 11) rfl (Nat.le_of_ble_eq_true rfl) q_1342 q_1344 (by omega) rfl (Nat.le_of_ble_eq_true rfl) (by decide) (by decide) dL_nameLetter_5 rfl (fun r1 M2 => ?_) (fun x M2 => ?_)
  · refine g_i2l 9 hX dL_nameLetter_8 rfl ?_
    refine g_last 10 hX dL_nameLetter_9 rfl ?_
    refine g_klM (fun M3 hM3 => ?_)
    refine g_goto 17 hX dL_nameLetter_10 (by decide) ?_
    refine g_iconst 18 hX 0 dL_nameLetter_17 rfl kc_i_0 ?_
    exact g_iret (b0 := ((0, M3) : Int32 × kMem)) hX hr rfl (Nat.le_refl _) (Nat.le_refl _) dL_nameLetter_18
  · refine g_xif 1 (fun hx => ?_) ?_
    · subst hx
      refine g_catch (x := 1) [] [] ⟨0, 10, 13, 24⟩ hX hT rfl (fun z hz => by cases hz) (by decide) (by decide) q_1242 (va_Nw.use rfl hX.2.2.2.2.2.2.2.2.1.2.2.2.2.2.1) rfl (fun q9 => ?_)
      refine g_astoreS 15 4 [(4, .retAddr q9), (0, .ref a0), (1, .int x1), (2, .int x2), (3, .ref a3)] hX dL_nameLetter_13 rfl (Nat.le_of_ble_eq_true rfl) rfl ?_
      refine g_iconst 16 hX 1 dL_nameLetter_15 rfl kc_i_1 ?_
      exact g_iret (b0 := ((1, M2) : Int32 × kMem)) hX hr rfl (Nat.le_refl _) (Nat.le_refl _) dL_nameLetter_16
    exact g_xnone
def F_L_weightOf (N : Nat) (M : kMem) (a0 : Nat) (x1 : Int32) (a2 : Nat) : Option (Int32 × kMem) :=
    kg (kt M a0 11) <| kbc (F_X11_weightOf N M a0 x1) (fun r1 M2 =>
      kg (kin M2 a2 15 0) <| kl (ksL M2 a2 (kx 0) r1.toInt64) fun M3 =>
      some (0, M3)) (fun x M2 =>
      if x = 1 then (some (1, M2)) else none)
set_option maxRecDepth 100000 in
set_option maxHeartbeats 4000000 in
theorem k_L_weightOf (l : Launch) (g : kG) (hf : l.flags = flags0) (N : Nat) (M : kMem) (a0 : Nat) (x1 : Int32) (a2 : Nat) : kMetH l g yL_weightOf cL_weightOf 4 (some .int) [(0, 9, 12, 24)] 6 1 6 [.ref a0, .int x1, .ref a2] M (fun r : Int32 × kMem => (some (.int r.1), r.2)) (F_L_weightOf N M a0 x1 a2) := by
  refine k_ofH (lv := [(0, .ref a0), (1, .int x1), (2, .ref a2)]) RL (by decide) rfl rfl (Nat.le_of_ble_eq_true rfl) ?_
  intro p e s m args below meth c hX hr hT hN
  unfold F_L_weightOf
  refine g_aload_n 1 2 hX dL_weightOf_0 rfl rfl ?_
  refine g_iconst 2 hX 0 dL_weightOf_1 rfl kc_i_0 ?_
  refine g_aload_n 3 0 hX dL_weightOf_2 rfl rfl ?_
  refine g_iload_n 4 1 hX dL_weightOf_3 rfl rfl ?_
  refine g_callVC 7 hX (k_X11_weightOf l g hf N M a0 x1) lk_X11_weightOf rfl (ci := 11) rfl (Nat.le_of_ble_eq_true rfl) q_1359 q_1361 (by omega) rfl (Nat.le_of_ble_eq_true rfl) (by decide) (by decide) dL_weightOf_4 rfl (fun r1 M2 => ?_) (fun x M2 => ?_)
  · refine g_i2l 8 hX dL_weightOf_7 rfl ?_
    refine g_last 9 hX dL_weightOf_8 rfl ?_
    refine g_klM (fun M3 hM3 => ?_)
    refine g_goto 15 hX dL_weightOf_9 (by decide) ?_
    refine g_iconst 16 hX 0 dL_weightOf_15 rfl kc_i_0 ?_
    exact g_iret (b0 := ((0, M3) : Int32 × kMem)) hX hr rfl (Nat.le_refl _) (Nat.le_refl _) dL_weightOf_16
  · refine g_xif 1 (fun hx => ?_) ?_
    · subst hx
      refine g_catch (x := 1) [] [] ⟨0, 9, 12, 24⟩ hX hT rfl (fun z hz => by cases hz) (by decide) (by decide) q_1242 (va_Nw.use rfl hX.2.2.2.2.2.2.2.2.1.2.2.2.2.2.1) rfl (fun q9 => ?_)
      refine g_astoreS_n 13 3 [(3, .retAddr q9), (0, .ref a0), (1, .int x1), (2, .ref a2)] hX dL_weightOf_12 rfl rfl (Nat.le_of_ble_eq_true rfl) rfl ?_
      refine g_iconst 14 hX 1 dL_weightOf_13 rfl kc_i_1 ?_
      exact g_iret (b0 := ((1, M2) : Int32 × kMem)) hX hr rfl (Nat.le_refl _) (Nat.le_refl _) dL_weightOf_14
    exact g_xnone
def F_L_purseOf (N : Nat) (M : kMem) (a0 : Nat) (x1 : Int32) (a2 : Nat) : Option (Int32 × kMem) :=
    kg (kt M a0 11) <| kbc (F_X11_purseOf N M a0 x1) (fun r1 M2 =>
      kg (kin M2 a2 15 0) <| kl (ksL M2 a2 (kx 0) r1.toInt64) fun M3 =>
      some (0, M3)) (fun x M2 =>
      if x = 1 then (some (1, M2)) else none)
set_option maxRecDepth 100000 in
set_option maxHeartbeats 4000000 in
theorem k_L_purseOf (l : Launch) (g : kG) (hf : l.flags = flags0) (N : Nat) (M : kMem) (a0 : Nat) (x1 : Int32) (a2 : Nat) : kMetH l g yL_purseOf cL_purseOf 4 (some .int) [(0, 9, 12, 24)] 6 1 6 [.ref a0, .int x1, .ref a2] M (fun r : Int32 × kMem => (some (.int r.1), r.2)) (F_L_purseOf N M a0 x1 a2) := by
  refine k_ofH (lv := [(0, .ref a0), (1, .int x1), (2, .ref a2)]) RL (by decide) rfl rfl (Nat.le_of_ble_eq_true rfl) ?_
  intro p e s m args below meth c hX hr hT hN
  unfold F_L_purseOf
  refine g_aload_n 1 2 hX dL_purseOf_0 rfl rfl ?_
  refine g_iconst 2 hX 0 dL_purseOf_1 rfl kc_i_0 ?_
  refine g_aload_n 3 0 hX dL_purseOf_2 rfl rfl ?_
  refine g_iload_n 4 1 hX dL_purseOf_3 rfl rfl ?_
  refine g_callVC 7 hX (k_X11_purseOf l g hf N M a0 x1) lk_X11_purseOf rfl (ci := 11) rfl (Nat.le_of_ble_eq_true rfl) q_1366 q_1368 (by omega) rfl (Nat.le_of_ble_eq_true rfl) (by decide) (by decide) dL_purseOf_4 rfl (fun r1 M2 => ?_) (fun x M2 => ?_)
  · refine g_i2l 8 hX dL_purseOf_7 rfl ?_
    refine g_last 9 hX dL_purseOf_8 rfl ?_
    refine g_klM (fun M3 hM3 => ?_)
    refine g_goto 15 hX dL_purseOf_9 (by decide) ?_
    refine g_iconst 16 hX 0 dL_purseOf_15 rfl kc_i_0 ?_
    exact g_iret (b0 := ((0, M3) : Int32 × kMem)) hX hr rfl (Nat.le_refl _) (Nat.le_refl _) dL_purseOf_16
  · refine g_xif 1 (fun hx => ?_) ?_
    · subst hx
      refine g_catch (x := 1) [] [] ⟨0, 9, 12, 24⟩ hX hT rfl (fun z hz => by cases hz) (by decide) (by decide) q_1242 (va_Nw.use rfl hX.2.2.2.2.2.2.2.2.1.2.2.2.2.2.1) rfl (fun q9 => ?_)
      refine g_astoreS_n 13 3 [(3, .retAddr q9), (0, .ref a0), (1, .int x1), (2, .ref a2)] hX dL_purseOf_12 rfl rfl (Nat.le_of_ble_eq_true rfl) rfl ?_
      refine g_iconst 14 hX 1 dL_purseOf_13 rfl kc_i_1 ?_
      exact g_iret (b0 := ((1, M2) : Int32 × kMem)) hX hr rfl (Nat.le_refl _) (Nat.le_refl _) dL_purseOf_14
    exact g_xnone
def F_L_ageOf (N : Nat) (M : kMem) (a0 : Nat) (x1 : Int32) (a2 : Nat) : Option (Int32 × kMem) :=
    kg (kt M a0 11) <| kbc (F_X11_ageOf N M a0 x1) (fun r1 M2 =>
      kg (kin M2 a2 15 0) <| kl (ksL M2 a2 (kx 0) r1.toInt64) fun M3 =>
      some (0, M3)) (fun x M2 =>
      if x = 1 then (some (1, M2)) else none)
set_option maxRecDepth 100000 in
set_option maxHeartbeats 4000000 in
theorem k_L_ageOf (l : Launch) (g : kG) (hf : l.flags = flags0) (N : Nat) (M : kMem) (a0 : Nat) (x1 : Int32) (a2 : Nat) : kMetH l g yL_ageOf cL_ageOf 4 (some .int) [(0, 9, 12, 24)] 6 1 6 [.ref a0, .int x1, .ref a2] M (fun r : Int32 × kMem => (some (.int r.1), r.2)) (F_L_ageOf N M a0 x1 a2) := by
  refine k_ofH (lv := [(0, .ref a0), (1, .int x1), (2, .ref a2)]) RL (by decide) rfl rfl (Nat.le_of_ble_eq_true rfl) ?_
  intro p e s m args below meth c hX hr hT hN
  unfold F_L_ageOf
  refine g_aload_n 1 2 hX dL_ageOf_0 rfl rfl ?_
  refine g_iconst 2 hX 0 dL_ageOf_1 rfl kc_i_0 ?_
  refine g_aload_n 3 0 hX dL_ageOf_2 rfl rfl ?_
  refine g_iload_n 4 1 hX dL_ageOf_3 rfl rfl ?_
  refine g_callVC 7 hX (k_X11_ageOf l g hf N M a0 x1) lk_X11_ageOf rfl (ci := 11) rfl (Nat.le_of_ble_eq_true rfl) q_1373 q_1375 (by omega) rfl (Nat.le_of_ble_eq_true rfl) (by decide) (by decide) dL_ageOf_4 rfl (fun r1 M2 => ?_) (fun x M2 => ?_)
  · refine g_i2l 8 hX dL_ageOf_7 rfl ?_
    refine g_last 9 hX dL_ageOf_8 rfl ?_
    refine g_klM (fun M3 hM3 => ?_)
    refine g_goto 15 hX dL_ageOf_9 (by decide) ?_
    refine g_iconst 16 hX 0 dL_ageOf_15 rfl kc_i_0 ?_
    exact g_iret (b0 := ((0, M3) : Int32 × kMem)) hX hr rfl (Nat.le_refl _) (Nat.le_refl _) dL_ageOf_16
  · refine g_xif 1 (fun hx => ?_) ?_
    · subst hx
      refine g_catch (x := 1) [] [] ⟨0, 9, 12, 24⟩ hX hT rfl (fun z hz => by cases hz) (by decide) (by decide) q_1242 (va_Nw.use rfl hX.2.2.2.2.2.2.2.2.1.2.2.2.2.2.1) rfl (fun q9 => ?_)
      refine g_astoreS_n 13 3 [(3, .retAddr q9), (0, .ref a0), (1, .int x1), (2, .ref a2)] hX dL_ageOf_12 rfl rfl (Nat.le_of_ble_eq_true rfl) rfl ?_
      refine g_iconst 14 hX 1 dL_ageOf_13 rfl kc_i_1 ?_
      exact g_iret (b0 := ((1, M2) : Int32 × kMem)) hX hr rfl (Nat.le_refl _) (Nat.le_refl _) dL_ageOf_14
    exact g_xnone
def F_L_isPresent (N : Nat) (M : kMem) (a0 : Nat) (x1 : Int32) (a2 : Nat) : Option (Int32 × kMem) :=
    kg (kt M a0 11) <| kbc (F_X11_isPresent N M a0 x1) (fun r1 M2 =>
      if r1 = 0 then (
        kg (kin M2 a2 15 0) <| kl (ksL M2 a2 (kx 0) 0) fun M3 =>
        some (0, M3)) else
      kg (kin M2 a2 15 0) <| kl (ksL M2 a2 (kx 0) 1) fun M4 =>
      some (0, M4)) (fun x M2 =>
      if x = 1 then (some (1, M2)) else none)
set_option maxRecDepth 100000 in
set_option maxHeartbeats 4000000 in
theorem k_L_isPresent (l : Launch) (g : kG) (hf : l.flags = flags0) (N : Nat) (M : kMem) (a0 : Nat) (x1 : Int32) (a2 : Nat) : kMetH l g yL_isPresent cL_isPresent 4 (some .int) [(0, 16, 19, 24)] 6 1 6 [.ref a0, .int x1, .ref a2] M (fun r : Int32 × kMem => (some (.int r.1), r.2)) (F_L_isPresent N M a0 x1 a2) := by
  refine k_ofH (lv := [(0, .ref a0), (1, .int x1), (2, .ref a2)]) RL (by decide) rfl rfl (Nat.le_of_ble_eq_true rfl) ?_
  intro p e s m args below meth c hX hr hT hN
  unfold F_L_isPresent
  refine g_aload_n 1 2 hX dL_isPresent_0 rfl rfl ?_
  refine g_iconst 2 hX 0 dL_isPresent_1 rfl kc_i_0 ?_
  refine g_aload_n 3 0 hX dL_isPresent_2 rfl rfl ?_
  refine g_iload_n 4 1 hX dL_isPresent_3 rfl rfl ?_
  refine g_callVC 7 hX (k_X11_isPresent l g hf N M a0 x1) lk_X11_isPresent rfl (ci := 11) rfl (Nat.le_of_ble_eq_true rfl) q_1380 q_1382 (by omega) rfl (Nat.le_of_ble_eq_true rfl) (by decide) (by decide) dL_isPresent_4 rfl (fun r1 M2 => ?_) (fun x M2 => ?_)
  · refine g_if_eq 14 10 hX dL_isPresent_7 (by decide) rfl (fun _ => ?_) (fun _ => ?_)
    · refine g_lconst 15 hX 0 dL_isPresent_14 rfl rfl ?_
      refine g_last 16 hX dL_isPresent_15 rfl ?_
      refine g_klM (fun M3 hM3 => ?_)
      refine g_goto 22 hX dL_isPresent_16 (by decide) ?_
      refine g_iconst 23 hX 0 dL_isPresent_22 rfl kc_i_0 ?_
      exact g_iret (b0 := ((0, M3) : Int32 × kMem)) hX hr rfl (Nat.le_refl _) (Nat.le_refl _) dL_isPresent_23
    · refine g_lconst 11 hX 1 dL_isPresent_10 rfl rfl ?_
      refine g_goto 15 hX dL_isPresent_11 (by decide) ?_
      refine g_last 16 hX dL_isPresent_15 rfl ?_
      refine g_klM (fun M4 hM4 => ?_)
      refine g_goto 22 hX dL_isPresent_16 (by decide) ?_
      refine g_iconst 23 hX 0 dL_isPresent_22 rfl kc_i_0 ?_
      exact g_iret (b0 := ((0, M4) : Int32 × kMem)) hX hr rfl (Nat.le_refl _) (Nat.le_refl _) dL_isPresent_23
  · refine g_xif 1 (fun hx => ?_) ?_
    · subst hx
      refine g_catch (x := 1) [] [] ⟨0, 16, 19, 24⟩ hX hT rfl (fun z hz => by cases hz) (by decide) (by decide) q_1242 (va_Nw.use rfl hX.2.2.2.2.2.2.2.2.1.2.2.2.2.2.1) rfl (fun q9 => ?_)
      refine g_astoreS_n 20 3 [(3, .retAddr q9), (0, .ref a0), (1, .int x1), (2, .ref a2)] hX dL_isPresent_19 rfl rfl (Nat.le_of_ble_eq_true rfl) rfl ?_
      refine g_iconst 21 hX 1 dL_isPresent_20 rfl kc_i_1 ?_
      exact g_iret (b0 := ((1, M2) : Int32 × kMem)) hX hr rfl (Nat.le_refl _) (Nat.le_refl _) dL_isPresent_21
    exact g_xnone
def F_L_boardOf (N : Nat) (M : kMem) (a0 : Nat) (x1 : Int32) (a2 : Nat) : Option (Int32 × kMem) :=
    kg (kt M a0 11) <| kbc (F_X11_boardOf N M a0 x1) (fun r1 M2 =>
      kg (kin M2 a2 15 0) <| kl (ksL M2 a2 (kx 0) r1.toInt64) fun M3 =>
      some (0, M3)) (fun x M2 =>
      if x = 1 then (some (1, M2)) else none)
set_option maxRecDepth 100000 in
set_option maxHeartbeats 4000000 in
theorem k_L_boardOf (l : Launch) (g : kG) (hf : l.flags = flags0) (N : Nat) (M : kMem) (a0 : Nat) (x1 : Int32) (a2 : Nat) : kMetH l g yL_boardOf cL_boardOf 4 (some .int) [(0, 9, 12, 24)] 6 1 6 [.ref a0, .int x1, .ref a2] M (fun r : Int32 × kMem => (some (.int r.1), r.2)) (F_L_boardOf N M a0 x1 a2) := by
  refine k_ofH (lv := [(0, .ref a0), (1, .int x1), (2, .ref a2)]) RL (by decide) rfl rfl (Nat.le_of_ble_eq_true rfl) ?_
  intro p e s m args below meth c hX hr hT hN
  unfold F_L_boardOf
  refine g_aload_n 1 2 hX dL_boardOf_0 rfl rfl ?_
  refine g_iconst 2 hX 0 dL_boardOf_1 rfl kc_i_0 ?_
  refine g_aload_n 3 0 hX dL_boardOf_2 rfl rfl ?_
  refine g_iload_n 4 1 hX dL_boardOf_3 rfl rfl ?_
  refine g_callVC 7 hX (k_X11_boardOf l g hf N M a0 x1) lk_X11_boardOf rfl (ci := 11) rfl (Nat.le_of_ble_eq_true rfl) q_1387 q_1389 (by omega) rfl (Nat.le_of_ble_eq_true rfl) (by decide) (by decide) dL_boardOf_4 rfl (fun r1 M2 => ?_) (fun x M2 => ?_)
  · refine g_i2l 8 hX dL_boardOf_7 rfl ?_
    refine g_last 9 hX dL_boardOf_8 rfl ?_
    refine g_klM (fun M3 hM3 => ?_)
    refine g_goto 15 hX dL_boardOf_9 (by decide) ?_
    refine g_iconst 16 hX 0 dL_boardOf_15 rfl kc_i_0 ?_
    exact g_iret (b0 := ((0, M3) : Int32 × kMem)) hX hr rfl (Nat.le_refl _) (Nat.le_refl _) dL_boardOf_16
  · refine g_xif 1 (fun hx => ?_) ?_
    · subst hx
      refine g_catch (x := 1) [] [] ⟨0, 9, 12, 24⟩ hX hT rfl (fun z hz => by cases hz) (by decide) (by decide) q_1242 (va_Nw.use rfl hX.2.2.2.2.2.2.2.2.1.2.2.2.2.2.1) rfl (fun q9 => ?_)
      refine g_astoreS_n 13 3 [(3, .retAddr q9), (0, .ref a0), (1, .int x1), (2, .ref a2)] hX dL_boardOf_12 rfl rfl (Nat.le_of_ble_eq_true rfl) rfl ?_
      refine g_iconst 14 hX 1 dL_boardOf_13 rfl kc_i_1 ?_
      exact g_iret (b0 := ((1, M2) : Int32 × kMem)) hX hr rfl (Nat.le_refl _) (Nat.le_refl _) dL_boardOf_14
    exact g_xnone
def F_L_positionOf (N : Nat) (M : kMem) (a0 : Nat) (x1 : Int32) (a2 : Nat) : Option (Int32 × kMem) :=
    kg (kt M a0 11) <| kbc (F_X11_positionOf N M a0 x1) (fun r1 M2 =>
      kg (kin M2 a2 15 0) <| kl (ksL M2 a2 (kx 0) r1.toInt64) fun M3 =>
      some (0, M3)) (fun x M2 =>
      if x = 1 then (some (1, M2)) else none)
set_option maxRecDepth 100000 in
set_option maxHeartbeats 4000000 in
theorem k_L_positionOf (l : Launch) (g : kG) (hf : l.flags = flags0) (N : Nat) (M : kMem) (a0 : Nat) (x1 : Int32) (a2 : Nat) : kMetH l g yL_positionOf cL_positionOf 4 (some .int) [(0, 9, 12, 24)] 6 1 6 [.ref a0, .int x1, .ref a2] M (fun r : Int32 × kMem => (some (.int r.1), r.2)) (F_L_positionOf N M a0 x1 a2) := by
  refine k_ofH (lv := [(0, .ref a0), (1, .int x1), (2, .ref a2)]) RL (by decide) rfl rfl (Nat.le_of_ble_eq_true rfl) ?_
  intro p e s m args below meth c hX hr hT hN
  unfold F_L_positionOf
  refine g_aload_n 1 2 hX dL_positionOf_0 rfl rfl ?_
  refine g_iconst 2 hX 0 dL_positionOf_1 rfl kc_i_0 ?_
  refine g_aload_n 3 0 hX dL_positionOf_2 rfl rfl ?_
  refine g_iload_n 4 1 hX dL_positionOf_3 rfl rfl ?_
  refine g_callVC 7 hX (k_X11_positionOf l g hf N M a0 x1) lk_X11_positionOf rfl (ci := 11) rfl (Nat.le_of_ble_eq_true rfl) q_1394 q_1396 (by omega) rfl (Nat.le_of_ble_eq_true rfl) (by decide) (by decide) dL_positionOf_4 rfl (fun r1 M2 => ?_) (fun x M2 => ?_)
  · refine g_i2l 8 hX dL_positionOf_7 rfl ?_
    refine g_last 9 hX dL_positionOf_8 rfl ?_
    refine g_klM (fun M3 hM3 => ?_)
    refine g_goto 15 hX dL_positionOf_9 (by decide) ?_
    refine g_iconst 16 hX 0 dL_positionOf_15 rfl kc_i_0 ?_
    exact g_iret (b0 := ((0, M3) : Int32 × kMem)) hX hr rfl (Nat.le_refl _) (Nat.le_refl _) dL_positionOf_16
  · refine g_xif 1 (fun hx => ?_) ?_
    · subst hx
      refine g_catch (x := 1) [] [] ⟨0, 9, 12, 24⟩ hX hT rfl (fun z hz => by cases hz) (by decide) (by decide) q_1242 (va_Nw.use rfl hX.2.2.2.2.2.2.2.2.1.2.2.2.2.2.1) rfl (fun q9 => ?_)
      refine g_astoreS_n 13 3 [(3, .retAddr q9), (0, .ref a0), (1, .int x1), (2, .ref a2)] hX dL_positionOf_12 rfl rfl (Nat.le_of_ble_eq_true rfl) rfl ?_
      refine g_iconst 14 hX 1 dL_positionOf_13 rfl kc_i_1 ?_
      exact g_iret (b0 := ((1, M2) : Int32 × kMem)) hX hr rfl (Nat.le_refl _) (Nat.le_refl _) dL_positionOf_14
    exact g_xnone
def F_L_incomeOf (N : Nat) (M : kMem) (a0 : Nat) (x1 : Int32) (a2 : Nat) : Option (Int32 × kMem) :=
    kg (kt M a0 11) <| kbc (F_X11_incomeOf N M a0 x1) (fun r1 M2 =>
      kg (kin M2 a2 15 0) <| kl (ksL M2 a2 (kx 0) r1.toInt64) fun M3 =>
      some (0, M3)) (fun x M2 =>
      if x = 1 then (some (1, M2)) else none)
set_option maxRecDepth 100000 in
set_option maxHeartbeats 4000000 in
theorem k_L_incomeOf (l : Launch) (g : kG) (hf : l.flags = flags0) (N : Nat) (M : kMem) (a0 : Nat) (x1 : Int32) (a2 : Nat) : kMetH l g yL_incomeOf cL_incomeOf 4 (some .int) [(0, 9, 12, 24)] 6 1 6 [.ref a0, .int x1, .ref a2] M (fun r : Int32 × kMem => (some (.int r.1), r.2)) (F_L_incomeOf N M a0 x1 a2) := by
  refine k_ofH (lv := [(0, .ref a0), (1, .int x1), (2, .ref a2)]) RL (by decide) rfl rfl (Nat.le_of_ble_eq_true rfl) ?_
  intro p e s m args below meth c hX hr hT hN
  unfold F_L_incomeOf
  refine g_aload_n 1 2 hX dL_incomeOf_0 rfl rfl ?_
  refine g_iconst 2 hX 0 dL_incomeOf_1 rfl kc_i_0 ?_
  refine g_aload_n 3 0 hX dL_incomeOf_2 rfl rfl ?_
  refine g_iload_n 4 1 hX dL_incomeOf_3 rfl rfl ?_
  refine g_callVC 7 hX (k_X11_incomeOf l g hf N M a0 x1) lk_X11_incomeOf rfl (ci := 11) rfl (Nat.le_of_ble_eq_true rfl) q_1401 q_1403 (by omega) rfl (Nat.le_of_ble_eq_true rfl) (by decide) (by decide) dL_incomeOf_4 rfl (fun r1 M2 => ?_) (fun x M2 => ?_)
  · refine g_i2l 8 hX dL_incomeOf_7 rfl ?_
    refine g_last 9 hX dL_incomeOf_8 rfl ?_
    refine g_klM (fun M3 hM3 => ?_)
    refine g_goto 15 hX dL_incomeOf_9 (by decide) ?_
    refine g_iconst 16 hX 0 dL_incomeOf_15 rfl kc_i_0 ?_
    exact g_iret (b0 := ((0, M3) : Int32 × kMem)) hX hr rfl (Nat.le_refl _) (Nat.le_refl _) dL_incomeOf_16
  · refine g_xif 1 (fun hx => ?_) ?_
    · subst hx
      refine g_catch (x := 1) [] [] ⟨0, 9, 12, 24⟩ hX hT rfl (fun z hz => by cases hz) (by decide) (by decide) q_1242 (va_Nw.use rfl hX.2.2.2.2.2.2.2.2.1.2.2.2.2.2.1) rfl (fun q9 => ?_)
      refine g_astoreS_n 13 3 [(3, .retAddr q9), (0, .ref a0), (1, .int x1), (2, .ref a2)] hX dL_incomeOf_12 rfl rfl (Nat.le_of_ble_eq_true rfl) rfl ?_
      refine g_iconst 14 hX 1 dL_incomeOf_13 rfl kc_i_1 ?_
      exact g_iret (b0 := ((1, M2) : Int32 × kMem)) hX hr rfl (Nat.le_refl _) (Nat.le_refl _) dL_incomeOf_14
    exact g_xnone
def F_L_reasonAgainstSeat (N : Nat) (M : kMem) (a0 : Nat) (x1 : Int32) (x2 : Int32) (x3 : Int32) (a4 : Nat) : Option (Int32 × kMem) :=
    kg (kt M a0 11) <| kbc (F_X11_reasonAgainstSeat N M a0 x1 x2 x3) (fun r1 M2 =>
      kg (kin M2 a4 15 0) <| kl (ksL M2 a4 (kx 0) r1.toInt64) fun M3 =>
      some (0, M3)) (fun x M2 =>
      if x = 1 then (some (1, M2)) else none)
set_option maxRecDepth 100000 in
set_option maxHeartbeats 4000000 in
theorem k_L_reasonAgainstSeat (l : Launch) (g : kG) (hf : l.flags = flags0) (N : Nat) (M : kMem) (a0 : Nat) (x1 : Int32) (x2 : Int32) (x3 : Int32) (a4 : Nat) : kMetH l g yL_reasonAgainstSeat cL_reasonAgainstSeat 6 (some .int) [(0, 12, 15, 24)] 7 3 18 [.ref a0, .int x1, .int x2, .int x3, .ref a4] M (fun r : Int32 × kMem => (some (.int r.1), r.2)) (F_L_reasonAgainstSeat N M a0 x1 x2 x3 a4) := by
  refine k_ofH (lv := [(0, .ref a0), (1, .int x1), (2, .int x2), (3, .int x3), (4, .ref a4)]) RL (by decide) rfl rfl (Nat.le_of_ble_eq_true rfl) ?_
  intro p e s m args below meth c hX hr hT hN
  unfold F_L_reasonAgainstSeat
  refine g_aload 2 4 hX dL_reasonAgainstSeat_0 rfl rfl ?_
  refine g_iconst 3 hX 0 dL_reasonAgainstSeat_2 rfl kc_i_0 ?_
  refine g_aload_n 4 0 hX dL_reasonAgainstSeat_3 rfl rfl ?_
  refine g_iload_n 5 1 hX dL_reasonAgainstSeat_4 rfl rfl ?_
  refine g_iload_n 6 2 hX dL_reasonAgainstSeat_5 rfl rfl ?_
  refine g_iload_n 7 3 hX dL_reasonAgainstSeat_6 rfl rfl ?_
  refine g_callVC 10 hX (k_X11_reasonAgainstSeat l g hf N M a0 x1 x2 x3) lk_X11_reasonAgainstSeat rfl (ci := 11) rfl (Nat.le_of_ble_eq_true rfl) q_1409 q_1411 (by omega) rfl (Nat.le_of_ble_eq_true rfl) (by decide) (by decide) dL_reasonAgainstSeat_7 rfl (fun r1 M2 => ?_) (fun x M2 => ?_)
  · refine g_i2l 11 hX dL_reasonAgainstSeat_10 rfl ?_
    refine g_last 12 hX dL_reasonAgainstSeat_11 rfl ?_
    refine g_klM (fun M3 hM3 => ?_)
    refine g_goto 19 hX dL_reasonAgainstSeat_12 (by decide) ?_
    refine g_iconst 20 hX 0 dL_reasonAgainstSeat_19 rfl kc_i_0 ?_
    exact g_iret (b0 := ((0, M3) : Int32 × kMem)) hX hr rfl (Nat.le_refl _) (Nat.le_refl _) dL_reasonAgainstSeat_20
  · refine g_xif 1 (fun hx => ?_) ?_
    · subst hx
      refine g_catch (x := 1) [] [] ⟨0, 12, 15, 24⟩ hX hT rfl (fun z hz => by cases hz) (by decide) (by decide) q_1242 (va_Nw.use rfl hX.2.2.2.2.2.2.2.2.1.2.2.2.2.2.1) rfl (fun q9 => ?_)
      refine g_astoreS 17 5 [(5, .retAddr q9), (0, .ref a0), (1, .int x1), (2, .int x2), (3, .int x3), (4, .ref a4)] hX dL_reasonAgainstSeat_15 rfl (Nat.le_of_ble_eq_true rfl) rfl ?_
      refine g_iconst 18 hX 1 dL_reasonAgainstSeat_17 rfl kc_i_1 ?_
      exact g_iret (b0 := ((1, M2) : Int32 × kMem)) hX hr rfl (Nat.le_refl _) (Nat.le_refl _) dL_reasonAgainstSeat_18
    exact g_xnone
def F_L_reasonAgainstSale (N : Nat) (M : kMem) (a0 : Nat) (x1 : Int32) (x2 : Int32) (x3 : Int32) (a4 : Nat) : Option (Int32 × kMem) :=
    kg (kt M a0 11) <| kbc (F_X11_reasonAgainstSale N M a0 x1 x2 x3) (fun r1 M2 =>
      kg (kin M2 a4 15 0) <| kl (ksL M2 a4 (kx 0) r1.toInt64) fun M3 =>
      some (0, M3)) (fun x M2 =>
      if x = 1 then (some (1, M2)) else if x = 2 then (some (2, M2)) else none)
set_option maxRecDepth 100000 in
set_option maxHeartbeats 4000000 in
theorem k_L_reasonAgainstSale (l : Launch) (g : kG) (hf : l.flags = flags0) (N : Nat) (M : kMem) (a0 : Nat) (x1 : Int32) (x2 : Int32) (x3 : Int32) (a4 : Nat) : kMetH l g yL_reasonAgainstSale cL_reasonAgainstSale 6 (some .int) [(0, 12, 15, 24), (0, 12, 19, 19)] 6 4 24 [.ref a0, .int x1, .int x2, .int x3, .ref a4] M (fun r : Int32 × kMem => (some (.int r.1), r.2)) (F_L_reasonAgainstSale N M a0 x1 x2 x3 a4) := by
  refine k_ofH (lv := [(0, .ref a0), (1, .int x1), (2, .int x2), (3, .int x3), (4, .ref a4)]) RL (by decide) rfl rfl (Nat.le_of_ble_eq_true rfl) ?_
  intro p e s m args below meth c hX hr hT hN
  unfold F_L_reasonAgainstSale
  refine g_aload 2 4 hX dL_reasonAgainstSale_0 rfl rfl ?_
  refine g_iconst 3 hX 0 dL_reasonAgainstSale_2 rfl kc_i_0 ?_
  refine g_aload_n 4 0 hX dL_reasonAgainstSale_3 rfl rfl ?_
  refine g_iload_n 5 1 hX dL_reasonAgainstSale_4 rfl rfl ?_
  refine g_iload_n 6 2 hX dL_reasonAgainstSale_5 rfl rfl ?_
  refine g_iload_n 7 3 hX dL_reasonAgainstSale_6 rfl rfl ?_
  refine g_callVC 10 hX (k_X11_reasonAgainstSale l g hf N M a0 x1 x2 x3) lk_X11_reasonAgainstSale rfl (ci := 11) rfl (Nat.le_of_ble_eq_true rfl) q_1417 q_1419 (by omega) rfl (Nat.le_of_ble_eq_true rfl) (by decide) (by decide) dL_reasonAgainstSale_7 rfl (fun r1 M2 => ?_) (fun x M2 => ?_)
  · refine g_i2l 11 hX dL_reasonAgainstSale_10 rfl ?_
    refine g_last 12 hX dL_reasonAgainstSale_11 rfl ?_
    refine g_klM (fun M3 hM3 => ?_)
    refine g_goto 23 hX dL_reasonAgainstSale_12 (by decide) ?_
    refine g_iconst 24 hX 0 dL_reasonAgainstSale_23 rfl kc_i_0 ?_
    exact g_iret (b0 := ((0, M3) : Int32 × kMem)) hX hr rfl (Nat.le_refl _) (Nat.le_refl _) dL_reasonAgainstSale_24
  · refine g_xif 1 (fun hx => ?_) ?_
    · subst hx
      refine g_catch (x := 1) [] [⟨0, 12, 19, 19⟩] ⟨0, 12, 15, 24⟩ hX hT rfl (fun z hz => by cases hz) (by decide) (by decide) q_1242 (va_Nw.use rfl hX.2.2.2.2.2.2.2.2.1.2.2.2.2.2.1) rfl (fun q9 => ?_)
      refine g_astoreS 17 5 [(5, .retAddr q9), (0, .ref a0), (1, .int x1), (2, .int x2), (3, .int x3), (4, .ref a4)] hX dL_reasonAgainstSale_15 rfl (Nat.le_of_ble_eq_true rfl) rfl ?_
      refine g_iconst 18 hX 1 dL_reasonAgainstSale_17 rfl kc_i_1 ?_
      exact g_iret (b0 := ((1, M2) : Int32 × kMem)) hX hr rfl (Nat.le_refl _) (Nat.le_refl _) dL_reasonAgainstSale_18
    refine g_xif 2 (fun hx => ?_) ?_
    · subst hx
      refine g_catch (x := 2) [⟨0, 12, 15, 24⟩] [] ⟨0, 12, 19, 19⟩ hX hT rfl (fun z hz => by cases List.mem_singleton.mp hz; exact Or.inr ⟨by decide, "java/lang/IndexOutOfBoundsException", q_1242, hN.1⟩) (by decide) (by decide) q_1215 (va_Nw.use rfl hX.2.2.2.2.2.2.2.2.1.2.2.2.2.2.2.1) rfl (fun q9 => ?_)
      refine g_astoreS 21 5 [(5, .retAddr q9), (0, .ref a0), (1, .int x1), (2, .int x2), (3, .int x3), (4, .ref a4)] hX dL_reasonAgainstSale_19 rfl (Nat.le_of_ble_eq_true rfl) rfl ?_
      refine g_iconst 22 hX 2 dL_reasonAgainstSale_21 rfl kc_i_2 ?_
      exact g_iret (b0 := ((2, M2) : Int32 × kMem)) hX hr rfl (Nat.le_refl _) (Nat.le_refl _) dL_reasonAgainstSale_22
    exact g_xnone
def F_L_reasonAgainstSwap (N : Nat) (M : kMem) (a0 : Nat) (x1 : Int32) (x2 : Int32) (a3 : Nat) : Option (Int32 × kMem) :=
    kg (kt M a0 11) <| kbc (F_X11_reasonAgainstSwap N M a0 x1 x2) (fun r1 M2 =>
      kg (kin M2 a3 15 0) <| kl (ksL M2 a3 (kx 0) r1.toInt64) fun M3 =>
      some (0, M3)) (fun x M2 =>
      if x = 1 then (some (1, M2)) else if x = 2 then (some (2, M2)) else none)
set_option maxRecDepth 100000 in
set_option maxHeartbeats 4000000 in
theorem k_L_reasonAgainstSwap (l : Launch) (g : kG) (hf : l.flags = flags0) (N : Nat) (M : kMem) (a0 : Nat) (x1 : Int32) (x2 : Int32) (a3 : Nat) : kMetH l g yL_reasonAgainstSwap cL_reasonAgainstSwap 5 (some .int) [(0, 10, 13, 24), (0, 10, 17, 19)] 6 3 18 [.ref a0, .int x1, .int x2, .ref a3] M (fun r : Int32 × kMem => (some (.int r.1), r.2)) (F_L_reasonAgainstSwap N M a0 x1 x2 a3) := by
  refine k_ofH (lv := [(0, .ref a0), (1, .int x1), (2, .int x2), (3, .ref a3)]) RL (by decide) rfl rfl (Nat.le_of_ble_eq_true rfl) ?_
  intro p e s m args below meth c hX hr hT hN
  unfold F_L_reasonAgainstSwap
  refine g_aload_n 1 3 hX dL_reasonAgainstSwap_0 rfl rfl ?_
  refine g_iconst 2 hX 0 dL_reasonAgainstSwap_1 rfl kc_i_0 ?_
  refine g_aload_n 3 0 hX dL_reasonAgainstSwap_2 rfl rfl ?_
  refine g_iload_n 4 1 hX dL_reasonAgainstSwap_3 rfl rfl ?_
  refine g_iload_n 5 2 hX dL_reasonAgainstSwap_4 rfl rfl ?_
  refine g_callVC 8 hX (k_X11_reasonAgainstSwap l g hf N M a0 x1 x2) lk_X11_reasonAgainstSwap rfl (ci := 11) rfl (Nat.le_of_ble_eq_true rfl) q_1429 q_1431 (by omega) rfl (Nat.le_of_ble_eq_true rfl) (by decide) (by decide) dL_reasonAgainstSwap_5 rfl (fun r1 M2 => ?_) (fun x M2 => ?_)
  · refine g_i2l 9 hX dL_reasonAgainstSwap_8 rfl ?_
    refine g_last 10 hX dL_reasonAgainstSwap_9 rfl ?_
    refine g_klM (fun M3 hM3 => ?_)
    refine g_goto 21 hX dL_reasonAgainstSwap_10 (by decide) ?_
    refine g_iconst 22 hX 0 dL_reasonAgainstSwap_21 rfl kc_i_0 ?_
    exact g_iret (b0 := ((0, M3) : Int32 × kMem)) hX hr rfl (Nat.le_refl _) (Nat.le_refl _) dL_reasonAgainstSwap_22
  · refine g_xif 1 (fun hx => ?_) ?_
    · subst hx
      refine g_catch (x := 1) [] [⟨0, 10, 17, 19⟩] ⟨0, 10, 13, 24⟩ hX hT rfl (fun z hz => by cases hz) (by decide) (by decide) q_1242 (va_Nw.use rfl hX.2.2.2.2.2.2.2.2.1.2.2.2.2.2.1) rfl (fun q9 => ?_)
      refine g_astoreS 15 4 [(4, .retAddr q9), (0, .ref a0), (1, .int x1), (2, .int x2), (3, .ref a3)] hX dL_reasonAgainstSwap_13 rfl (Nat.le_of_ble_eq_true rfl) rfl ?_
      refine g_iconst 16 hX 1 dL_reasonAgainstSwap_15 rfl kc_i_1 ?_
      exact g_iret (b0 := ((1, M2) : Int32 × kMem)) hX hr rfl (Nat.le_refl _) (Nat.le_refl _) dL_reasonAgainstSwap_16
    refine g_xif 2 (fun hx => ?_) ?_
    · subst hx
      refine g_catch (x := 2) [⟨0, 10, 13, 24⟩] [] ⟨0, 10, 17, 19⟩ hX hT rfl (fun z hz => by cases List.mem_singleton.mp hz; exact Or.inr ⟨by decide, "java/lang/IndexOutOfBoundsException", q_1242, hN.1⟩) (by decide) (by decide) q_1215 (va_Nw.use rfl hX.2.2.2.2.2.2.2.2.1.2.2.2.2.2.2.1) rfl (fun q9 => ?_)
      refine g_astoreS 19 4 [(4, .retAddr q9), (0, .ref a0), (1, .int x1), (2, .int x2), (3, .ref a3)] hX dL_reasonAgainstSwap_17 rfl (Nat.le_of_ble_eq_true rfl) rfl ?_
      refine g_iconst 20 hX 2 dL_reasonAgainstSwap_19 rfl kc_i_2 ?_
      exact g_iret (b0 := ((2, M2) : Int32 × kMem)) hX hr rfl (Nat.le_refl _) (Nat.le_refl _) dL_reasonAgainstSwap_20
    exact g_xnone
def F_L_weightUnitPrice (N : Nat) (M : kMem) (a0 : Nat) (x1 : Int32) (x2 : Int32) (a3 : Nat) : Option (Int32 × kMem) :=
    kg (kt M a0 11) <| kbc (F_X11_weightUnitPrice N M a0 x1 x2) (fun r1 M2 =>
      kg (kin M2 a3 15 0) <| kl (ksL M2 a3 (kx 0) r1.toInt64) fun M3 =>
      some (0, M3)) (fun x M2 =>
      if x = 1 then (some (1, M2)) else if x = 3 then (some (2, M2)) else none)
set_option maxRecDepth 100000 in
set_option maxHeartbeats 4000000 in
theorem k_L_weightUnitPrice (l : Launch) (g : kG) (hf : l.flags = flags0) (N : Nat) (M : kMem) (a0 : Nat) (x1 : Int32) (x2 : Int32) (a3 : Nat) : kMetH l g yL_weightUnitPrice cL_weightUnitPrice 5 (some .int) [(0, 10, 13, 24), (0, 10, 17, 13)] 6 4 24 [.ref a0, .int x1, .int x2, .ref a3] M (fun r : Int32 × kMem => (some (.int r.1), r.2)) (F_L_weightUnitPrice N M a0 x1 x2 a3) := by
  refine k_ofH (lv := [(0, .ref a0), (1, .int x1), (2, .int x2), (3, .ref a3)]) RL (by decide) rfl rfl (Nat.le_of_ble_eq_true rfl) ?_
  intro p e s m args below meth c hX hr hT hN
  unfold F_L_weightUnitPrice
  refine g_aload_n 1 3 hX dL_weightUnitPrice_0 rfl rfl ?_
  refine g_iconst 2 hX 0 dL_weightUnitPrice_1 rfl kc_i_0 ?_
  refine g_aload_n 3 0 hX dL_weightUnitPrice_2 rfl rfl ?_
  refine g_iload_n 4 1 hX dL_weightUnitPrice_3 rfl rfl ?_
  refine g_iload_n 5 2 hX dL_weightUnitPrice_4 rfl rfl ?_
  refine g_callVC 8 hX (k_X11_weightUnitPrice l g hf N M a0 x1 x2) lk_X11_weightUnitPrice rfl (ci := 11) rfl (Nat.le_of_ble_eq_true rfl) q_1437 q_1439 (by omega) rfl (Nat.le_of_ble_eq_true rfl) (by decide) (by decide) dL_weightUnitPrice_5 rfl (fun r1 M2 => ?_) (fun x M2 => ?_)
  · refine g_i2l 9 hX dL_weightUnitPrice_8 rfl ?_
    refine g_last 10 hX dL_weightUnitPrice_9 rfl ?_
    refine g_klM (fun M3 hM3 => ?_)
    refine g_goto 21 hX dL_weightUnitPrice_10 (by decide) ?_
    refine g_iconst 22 hX 0 dL_weightUnitPrice_21 rfl kc_i_0 ?_
    exact g_iret (b0 := ((0, M3) : Int32 × kMem)) hX hr rfl (Nat.le_refl _) (Nat.le_refl _) dL_weightUnitPrice_22
  · refine g_xif 1 (fun hx => ?_) ?_
    · subst hx
      refine g_catch (x := 1) [] [⟨0, 10, 17, 13⟩] ⟨0, 10, 13, 24⟩ hX hT rfl (fun z hz => by cases hz) (by decide) (by decide) q_1242 (va_Nw.use rfl hX.2.2.2.2.2.2.2.2.1.2.2.2.2.2.1) rfl (fun q9 => ?_)
      refine g_astoreS 15 4 [(4, .retAddr q9), (0, .ref a0), (1, .int x1), (2, .int x2), (3, .ref a3)] hX dL_weightUnitPrice_13 rfl (Nat.le_of_ble_eq_true rfl) rfl ?_
      refine g_iconst 16 hX 1 dL_weightUnitPrice_15 rfl kc_i_1 ?_
      exact g_iret (b0 := ((1, M2) : Int32 × kMem)) hX hr rfl (Nat.le_refl _) (Nat.le_refl _) dL_weightUnitPrice_16
    refine g_xif 3 (fun hx => ?_) ?_
    · subst hx
      refine g_catch (x := 3) [⟨0, 10, 13, 24⟩] [] ⟨0, 10, 17, 13⟩ hX hT rfl (fun z hz => by cases List.mem_singleton.mp hz; exact Or.inr ⟨by decide, "java/lang/IndexOutOfBoundsException", q_1242, hN.2.1⟩) (by decide) (by decide) q_1133 (va_Nw.use rfl hX.2.2.2.2.2.2.2.2.1.2.2.2.2.2.2.2) rfl (fun q9 => ?_)
      refine g_astoreS 19 4 [(4, .retAddr q9), (0, .ref a0), (1, .int x1), (2, .int x2), (3, .ref a3)] hX dL_weightUnitPrice_17 rfl (Nat.le_of_ble_eq_true rfl) rfl ?_
      refine g_iconst 20 hX 2 dL_weightUnitPrice_19 rfl kc_i_2 ?_
      exact g_iret (b0 := ((2, M2) : Int32 × kMem)) hX hr rfl (Nat.le_refl _) (Nat.le_refl _) dL_weightUnitPrice_20
    exact g_xnone
def F_L_bestSeat (N : Nat) (M : kMem) (a0 : Nat) (x1 : Int32) (x2 : Int32) (a3 : Nat) : Option (Int32 × kMem) :=
    kg (kt M a0 11) <| kbc (F_X11_bestSeat N M a0 x1 x2) (fun r1 M2 =>
      kg (kin M2 a3 15 0) <| kl (ksL M2 a3 (kx 0) r1.toInt64) fun M3 =>
      some (0, M3)) (fun x M2 =>
      if x = 1 then (some (1, M2)) else none)
set_option maxRecDepth 100000 in
set_option maxHeartbeats 4000000 in
theorem k_L_bestSeat (l : Launch) (g : kG) (hf : l.flags = flags0) (N : Nat) (M : kMem) (a0 : Nat) (x1 : Int32) (x2 : Int32) (a3 : Nat) : kMetH l g yL_bestSeat cL_bestSeat 5 (some .int) [(0, 10, 13, 24)] 7 2 12 [.ref a0, .int x1, .int x2, .ref a3] M (fun r : Int32 × kMem => (some (.int r.1), r.2)) (F_L_bestSeat N M a0 x1 x2 a3) := by
  refine k_ofH (lv := [(0, .ref a0), (1, .int x1), (2, .int x2), (3, .ref a3)]) RL (by decide) rfl rfl (Nat.le_of_ble_eq_true rfl) ?_
  intro p e s m args below meth c hX hr hT hN
  unfold F_L_bestSeat
  refine g_aload_n 1 3 hX dL_bestSeat_0 rfl rfl ?_
  refine g_iconst 2 hX 0 dL_bestSeat_1 rfl kc_i_0 ?_
  refine g_aload_n 3 0 hX dL_bestSeat_2 rfl rfl ?_
  refine g_iload_n 4 1 hX dL_bestSeat_3 rfl rfl ?_
  refine g_iload_n 5 2 hX dL_bestSeat_4 rfl rfl ?_
  refine g_callVC 8 hX (k_X11_bestSeat l g hf N M a0 x1 x2) lk_X11_bestSeat rfl (ci := 11) rfl (Nat.le_of_ble_eq_true rfl) q_1450 q_1452 (by omega) rfl (Nat.le_of_ble_eq_true rfl) (by decide) (by decide) dL_bestSeat_5 rfl (fun r1 M2 => ?_) (fun x M2 => ?_)
  · refine g_i2l 9 hX dL_bestSeat_8 rfl ?_
    refine g_last 10 hX dL_bestSeat_9 rfl ?_
    refine g_klM (fun M3 hM3 => ?_)
    refine g_goto 17 hX dL_bestSeat_10 (by decide) ?_
    refine g_iconst 18 hX 0 dL_bestSeat_17 rfl kc_i_0 ?_
    exact g_iret (b0 := ((0, M3) : Int32 × kMem)) hX hr rfl (Nat.le_refl _) (Nat.le_refl _) dL_bestSeat_18
  · refine g_xif 1 (fun hx => ?_) ?_
    · subst hx
      refine g_catch (x := 1) [] [] ⟨0, 10, 13, 24⟩ hX hT rfl (fun z hz => by cases hz) (by decide) (by decide) q_1242 (va_Nw.use rfl hX.2.2.2.2.2.2.2.2.1.2.2.2.2.2.1) rfl (fun q9 => ?_)
      refine g_astoreS 15 4 [(4, .retAddr q9), (0, .ref a0), (1, .int x1), (2, .int x2), (3, .ref a3)] hX dL_bestSeat_13 rfl (Nat.le_of_ble_eq_true rfl) rfl ?_
      refine g_iconst 16 hX 1 dL_bestSeat_15 rfl kc_i_1 ?_
      exact g_iret (b0 := ((1, M2) : Int32 × kMem)) hX hr rfl (Nat.le_refl _) (Nat.le_refl _) dL_bestSeat_16
    exact g_xnone
def F_L_purseAfter (N : Nat) (M : kMem) (a0 : Nat) (x1 : Int32) (x2 : Int32) (a3 : Nat) : Option (Int32 × kMem) :=
    kg (kt M a0 11) <| kbc (F_X11_purseAfter N M a0 x1 x2) (fun r1 M2 =>
      kg (kin M2 a3 15 0) <| kl (ksL M2 a3 (kx 0) r1.toInt64) fun M3 =>
      some (0, M3)) (fun x M2 =>
      if x = 1 then (some (1, M2)) else if x = 2 then (some (2, M2)) else none)
set_option maxRecDepth 100000 in
set_option maxHeartbeats 4000000 in
theorem k_L_purseAfter (l : Launch) (g : kG) (hf : l.flags = flags0) (N : Nat) (M : kMem) (a0 : Nat) (x1 : Int32) (x2 : Int32) (a3 : Nat) : kMetH l g yL_purseAfter cL_purseAfter 5 (some .int) [(0, 10, 13, 24), (0, 10, 17, 19)] 7 2 12 [.ref a0, .int x1, .int x2, .ref a3] M (fun r : Int32 × kMem => (some (.int r.1), r.2)) (F_L_purseAfter N M a0 x1 x2 a3) := by
  refine k_ofH (lv := [(0, .ref a0), (1, .int x1), (2, .int x2), (3, .ref a3)]) RL (by decide) rfl rfl (Nat.le_of_ble_eq_true rfl) ?_
  intro p e s m args below meth c hX hr hT hN
  unfold F_L_purseAfter
  refine g_aload_n 1 3 hX dL_purseAfter_0 rfl rfl ?_
  refine g_iconst 2 hX 0 dL_purseAfter_1 rfl kc_i_0 ?_
  refine g_aload_n 3 0 hX dL_purseAfter_2 rfl rfl ?_
  refine g_iload_n 4 1 hX dL_purseAfter_3 rfl rfl ?_
  refine g_iload_n 5 2 hX dL_purseAfter_4 rfl rfl ?_
  refine g_callVC 8 hX (k_X11_purseAfter l g hf N M a0 x1 x2) lk_X11_purseAfter rfl (ci := 11) rfl (Nat.le_of_ble_eq_true rfl) q_1462 q_1464 (by omega) rfl (Nat.le_of_ble_eq_true rfl) (by decide) (by decide) dL_purseAfter_5 rfl (fun r1 M2 => ?_) (fun x M2 => ?_)
  · refine g_i2l 9 hX dL_purseAfter_8 rfl ?_
    refine g_last 10 hX dL_purseAfter_9 rfl ?_
    refine g_klM (fun M3 hM3 => ?_)
    refine g_goto 21 hX dL_purseAfter_10 (by decide) ?_
    refine g_iconst 22 hX 0 dL_purseAfter_21 rfl kc_i_0 ?_
    exact g_iret (b0 := ((0, M3) : Int32 × kMem)) hX hr rfl (Nat.le_refl _) (Nat.le_refl _) dL_purseAfter_22
  · refine g_xif 1 (fun hx => ?_) ?_
    · subst hx
      refine g_catch (x := 1) [] [⟨0, 10, 17, 19⟩] ⟨0, 10, 13, 24⟩ hX hT rfl (fun z hz => by cases hz) (by decide) (by decide) q_1242 (va_Nw.use rfl hX.2.2.2.2.2.2.2.2.1.2.2.2.2.2.1) rfl (fun q9 => ?_)
      refine g_astoreS 15 4 [(4, .retAddr q9), (0, .ref a0), (1, .int x1), (2, .int x2), (3, .ref a3)] hX dL_purseAfter_13 rfl (Nat.le_of_ble_eq_true rfl) rfl ?_
      refine g_iconst 16 hX 1 dL_purseAfter_15 rfl kc_i_1 ?_
      exact g_iret (b0 := ((1, M2) : Int32 × kMem)) hX hr rfl (Nat.le_refl _) (Nat.le_refl _) dL_purseAfter_16
    refine g_xif 2 (fun hx => ?_) ?_
    · subst hx
      refine g_catch (x := 2) [⟨0, 10, 13, 24⟩] [] ⟨0, 10, 17, 19⟩ hX hT rfl (fun z hz => by cases List.mem_singleton.mp hz; exact Or.inr ⟨by decide, "java/lang/IndexOutOfBoundsException", q_1242, hN.1⟩) (by decide) (by decide) q_1215 (va_Nw.use rfl hX.2.2.2.2.2.2.2.2.1.2.2.2.2.2.2.1) rfl (fun q9 => ?_)
      refine g_astoreS 19 4 [(4, .retAddr q9), (0, .ref a0), (1, .int x1), (2, .int x2), (3, .ref a3)] hX dL_purseAfter_17 rfl (Nat.le_of_ble_eq_true rfl) rfl ?_
      refine g_iconst 20 hX 2 dL_purseAfter_19 rfl kc_i_2 ?_
      exact g_iret (b0 := ((2, M2) : Int32 × kMem)) hX hr rfl (Nat.le_refl _) (Nat.le_refl _) dL_purseAfter_20
    exact g_xnone
def F_L_bankAfter (N : Nat) (M : kMem) (a0 : Nat) (x1 : Int32) (a2 : Nat) : Option (Int32 × kMem) :=
    kg (kt M a0 11) <| kbc (F_X11_bankAfter N M a0 x1) (fun r1 M2 =>
      kg (kin M2 a2 15 0) <| kl (ksL M2 a2 (kx 0) r1.toInt64) fun M3 =>
      some (0, M3)) (fun x M2 =>
      if x = 2 then (some (1, M2)) else none)
set_option maxRecDepth 100000 in
set_option maxHeartbeats 4000000 in
theorem k_L_bankAfter (l : Launch) (g : kG) (hf : l.flags = flags0) (N : Nat) (M : kMem) (a0 : Nat) (x1 : Int32) (a2 : Nat) : kMetH l g yL_bankAfter cL_bankAfter 4 (some .int) [(0, 9, 12, 19)] 7 1 6 [.ref a0, .int x1, .ref a2] M (fun r : Int32 × kMem => (some (.int r.1), r.2)) (F_L_bankAfter N M a0 x1 a2) := by
  refine k_ofH (lv := [(0, .ref a0), (1, .int x1), (2, .ref a2)]) RL (by decide) rfl rfl (Nat.le_of_ble_eq_true rfl) ?_
  intro p e s m args below meth c hX hr hT hN
  unfold F_L_bankAfter
  refine g_aload_n 1 2 hX dL_bankAfter_0 rfl rfl ?_
  refine g_iconst 2 hX 0 dL_bankAfter_1 rfl kc_i_0 ?_
  refine g_aload_n 3 0 hX dL_bankAfter_2 rfl rfl ?_
  refine g_iload_n 4 1 hX dL_bankAfter_3 rfl rfl ?_
  refine g_callVC 7 hX (k_X11_bankAfter l g hf N M a0 x1) lk_X11_bankAfter rfl (ci := 11) rfl (Nat.le_of_ble_eq_true rfl) q_1470 q_1472 (by omega) rfl (Nat.le_of_ble_eq_true rfl) (by decide) (by decide) dL_bankAfter_4 rfl (fun r1 M2 => ?_) (fun x M2 => ?_)
  · refine g_i2l 8 hX dL_bankAfter_7 rfl ?_
    refine g_last 9 hX dL_bankAfter_8 rfl ?_
    refine g_klM (fun M3 hM3 => ?_)
    refine g_goto 15 hX dL_bankAfter_9 (by decide) ?_
    refine g_iconst 16 hX 0 dL_bankAfter_15 rfl kc_i_0 ?_
    exact g_iret (b0 := ((0, M3) : Int32 × kMem)) hX hr rfl (Nat.le_refl _) (Nat.le_refl _) dL_bankAfter_16
  · refine g_xif 2 (fun hx => ?_) ?_
    · subst hx
      refine g_catch (x := 2) [] [] ⟨0, 9, 12, 19⟩ hX hT rfl (fun z hz => by cases hz) (by decide) (by decide) q_1215 (va_Nw.use rfl hX.2.2.2.2.2.2.2.2.1.2.2.2.2.2.2.1) rfl (fun q9 => ?_)
      refine g_astoreS_n 13 3 [(3, .retAddr q9), (0, .ref a0), (1, .int x1), (2, .ref a2)] hX dL_bankAfter_12 rfl rfl (Nat.le_of_ble_eq_true rfl) rfl ?_
      refine g_iconst 14 hX 1 dL_bankAfter_13 rfl kc_i_1 ?_
      exact g_iret (b0 := ((1, M2) : Int32 × kMem)) hX hr rfl (Nat.le_refl _) (Nat.le_refl _) dL_bankAfter_14
    exact g_xnone
def F_L_daysUntilFall (N : Nat) (M : kMem) (a0 : Nat) (x1 : Int32) (a2 : Nat) : Option (Int32 × kMem) :=
    kg (kt M a0 11) <| kbc (F_X11_daysUntilFall N M a0 x1) (fun r1 M2 =>
      kg (kin M2 a2 15 0) <| kl (ksL M2 a2 (kx 0) r1.toInt64) fun M3 =>
      some (0, M3)) (fun x M2 =>
      if x = 1 then (some (1, M2)) else none)
set_option maxRecDepth 100000 in
set_option maxHeartbeats 4000000 in
theorem k_L_daysUntilFall (l : Launch) (g : kG) (hf : l.flags = flags0) (N : Nat) (M : kMem) (a0 : Nat) (x1 : Int32) (a2 : Nat) : kMetH l g yL_daysUntilFall cL_daysUntilFall 4 (some .int) [(0, 9, 12, 24)] 8 1 6 [.ref a0, .int x1, .ref a2] M (fun r : Int32 × kMem => (some (.int r.1), r.2)) (F_L_daysUntilFall N M a0 x1 a2) := by
  refine k_ofH (lv := [(0, .ref a0), (1, .int x1), (2, .ref a2)]) RL (by decide) rfl rfl (Nat.le_of_ble_eq_true rfl) ?_
  intro p e s m args below meth c hX hr hT hN
  unfold F_L_daysUntilFall
  refine g_aload_n 1 2 hX dL_daysUntilFall_0 rfl rfl ?_
  refine g_iconst 2 hX 0 dL_daysUntilFall_1 rfl kc_i_0 ?_
  refine g_aload_n 3 0 hX dL_daysUntilFall_2 rfl rfl ?_
  refine g_iload_n 4 1 hX dL_daysUntilFall_3 rfl rfl ?_
  refine g_callVC 7 hX (k_X11_daysUntilFall l g hf N M a0 x1) lk_X11_daysUntilFall rfl (ci := 11) rfl (Nat.le_of_ble_eq_true rfl) q_1477 q_1479 (by omega) rfl (Nat.le_of_ble_eq_true rfl) (by decide) (by decide) dL_daysUntilFall_4 rfl (fun r1 M2 => ?_) (fun x M2 => ?_)
  · refine g_i2l 8 hX dL_daysUntilFall_7 rfl ?_
    refine g_last 9 hX dL_daysUntilFall_8 rfl ?_
    refine g_klM (fun M3 hM3 => ?_)
    refine g_goto 15 hX dL_daysUntilFall_9 (by decide) ?_
    refine g_iconst 16 hX 0 dL_daysUntilFall_15 rfl kc_i_0 ?_
    exact g_iret (b0 := ((0, M3) : Int32 × kMem)) hX hr rfl (Nat.le_refl _) (Nat.le_refl _) dL_daysUntilFall_16
  · refine g_xif 1 (fun hx => ?_) ?_
    · subst hx
      refine g_catch (x := 1) [] [] ⟨0, 9, 12, 24⟩ hX hT rfl (fun z hz => by cases hz) (by decide) (by decide) q_1242 (va_Nw.use rfl hX.2.2.2.2.2.2.2.2.1.2.2.2.2.2.1) rfl (fun q9 => ?_)
      refine g_astoreS_n 13 3 [(3, .retAddr q9), (0, .ref a0), (1, .int x1), (2, .ref a2)] hX dL_daysUntilFall_12 rfl rfl (Nat.le_of_ble_eq_true rfl) rfl ?_
      refine g_iconst 14 hX 1 dL_daysUntilFall_13 rfl kc_i_1 ?_
      exact g_iret (b0 := ((1, M2) : Int32 × kMem)) hX hr rfl (Nat.le_refl _) (Nat.le_refl _) dL_daysUntilFall_14
    exact g_xnone
def F_L_daysUntilRetirement (N : Nat) (M : kMem) (a0 : Nat) (x1 : Int32) (a2 : Nat) : Option (Int32 × kMem) :=
    kg (kt M a0 11) <| kbc (F_X11_daysUntilRetirement N M a0 x1) (fun r1 M2 =>
      kg (kin M2 a2 15 0) <| kl (ksL M2 a2 (kx 0) r1.toInt64) fun M3 =>
      some (0, M3)) (fun x M2 =>
      if x = 1 then (some (1, M2)) else none)
set_option maxRecDepth 100000 in
set_option maxHeartbeats 4000000 in
theorem k_L_daysUntilRetirement (l : Launch) (g : kG) (hf : l.flags = flags0) (N : Nat) (M : kMem) (a0 : Nat) (x1 : Int32) (a2 : Nat) : kMetH l g yL_daysUntilRetirement cL_daysUntilRetirement 4 (some .int) [(0, 9, 12, 24)] 6 1 6 [.ref a0, .int x1, .ref a2] M (fun r : Int32 × kMem => (some (.int r.1), r.2)) (F_L_daysUntilRetirement N M a0 x1 a2) := by
  refine k_ofH (lv := [(0, .ref a0), (1, .int x1), (2, .ref a2)]) RL (by decide) rfl rfl (Nat.le_of_ble_eq_true rfl) ?_
  intro p e s m args below meth c hX hr hT hN
  unfold F_L_daysUntilRetirement
  refine g_aload_n 1 2 hX dL_daysUntilRetirement_0 rfl rfl ?_
  refine g_iconst 2 hX 0 dL_daysUntilRetirement_1 rfl kc_i_0 ?_
  refine g_aload_n 3 0 hX dL_daysUntilRetirement_2 rfl rfl ?_
  refine g_iload_n 4 1 hX dL_daysUntilRetirement_3 rfl rfl ?_
  refine g_callVC 7 hX (k_X11_daysUntilRetirement l g hf N M a0 x1) lk_X11_daysUntilRetirement rfl (ci := 11) rfl (Nat.le_of_ble_eq_true rfl) q_1489 q_1491 (by omega) rfl (Nat.le_of_ble_eq_true rfl) (by decide) (by decide) dL_daysUntilRetirement_4 rfl (fun r1 M2 => ?_) (fun x M2 => ?_)
  · refine g_i2l 8 hX dL_daysUntilRetirement_7 rfl ?_
    refine g_last 9 hX dL_daysUntilRetirement_8 rfl ?_
    refine g_klM (fun M3 hM3 => ?_)
    refine g_goto 15 hX dL_daysUntilRetirement_9 (by decide) ?_
    refine g_iconst 16 hX 0 dL_daysUntilRetirement_15 rfl kc_i_0 ?_
    exact g_iret (b0 := ((0, M3) : Int32 × kMem)) hX hr rfl (Nat.le_refl _) (Nat.le_refl _) dL_daysUntilRetirement_16
  · refine g_xif 1 (fun hx => ?_) ?_
    · subst hx
      refine g_catch (x := 1) [] [] ⟨0, 9, 12, 24⟩ hX hT rfl (fun z hz => by cases hz) (by decide) (by decide) q_1242 (va_Nw.use rfl hX.2.2.2.2.2.2.2.2.1.2.2.2.2.2.1) rfl (fun q9 => ?_)
      refine g_astoreS_n 13 3 [(3, .retAddr q9), (0, .ref a0), (1, .int x1), (2, .ref a2)] hX dL_daysUntilRetirement_12 rfl rfl (Nat.le_of_ble_eq_true rfl) rfl ?_
      refine g_iconst 14 hX 1 dL_daysUntilRetirement_13 rfl kc_i_1 ?_
      exact g_iret (b0 := ((1, M2) : Int32 × kMem)) hX hr rfl (Nat.le_refl _) (Nat.le_refl _) dL_daysUntilRetirement_14
    exact g_xnone
def F_L_join (N : Nat) (M : kMem) (a0 : Nat) (x1 : Int32) (x2 : Int32) (a3 : Nat) : Option (Int32 × kMem) :=
    kg (kt M a0 11) <| kbc (F_X11_join N M a0 x1 x2) (fun r1 M2 =>
      kg (kin M2 a3 15 0) <| kl (ksL M2 a3 (kx 0) r1.toInt64) fun M3 =>
      some (0, M3)) (fun x M2 =>
      if x = 2 then (some (1, M2)) else if x = 3 then (some (2, M2)) else none)
set_option maxRecDepth 100000 in
set_option maxHeartbeats 4000000 in
theorem k_L_join (l : Launch) (g : kG) (hf : l.flags = flags0) (N : Nat) (M : kMem) (a0 : Nat) (x1 : Int32) (x2 : Int32) (a3 : Nat) : kMetH l g yL_join cL_join 5 (some .int) [(0, 10, 13, 19), (0, 10, 17, 13)] 6 3 18 [.ref a0, .int x1, .int x2, .ref a3] M (fun r : Int32 × kMem => (some (.int r.1), r.2)) (F_L_join N M a0 x1 x2 a3) := by
  refine k_ofH (lv := [(0, .ref a0), (1, .int x1), (2, .int x2), (3, .ref a3)]) RL (by decide) rfl rfl (Nat.le_of_ble_eq_true rfl) ?_
  intro p e s m args below meth c hX hr hT hN
  unfold F_L_join
  refine g_aload_n 1 3 hX dL_join_0 rfl rfl ?_
  refine g_iconst 2 hX 0 dL_join_1 rfl kc_i_0 ?_
  refine g_aload_n 3 0 hX dL_join_2 rfl rfl ?_
  refine g_iload_n 4 1 hX dL_join_3 rfl rfl ?_
  refine g_iload_n 5 2 hX dL_join_4 rfl rfl ?_
  refine g_callVC 8 hX (k_X11_join l g hf N M a0 x1 x2) lk_X11_join rfl (ci := 11) rfl (Nat.le_of_ble_eq_true rfl) q_1496 q_1498 (by omega) rfl (Nat.le_of_ble_eq_true rfl) (by decide) (by decide) dL_join_5 rfl (fun r1 M2 => ?_) (fun x M2 => ?_)
  · refine g_i2l 9 hX dL_join_8 rfl ?_
    refine g_last 10 hX dL_join_9 rfl ?_
    refine g_klM (fun M3 hM3 => ?_)
    refine g_goto 21 hX dL_join_10 (by decide) ?_
    refine g_iconst 22 hX 0 dL_join_21 rfl kc_i_0 ?_
    exact g_iret (b0 := ((0, M3) : Int32 × kMem)) hX hr rfl (Nat.le_refl _) (Nat.le_refl _) dL_join_22
  · refine g_xif 2 (fun hx => ?_) ?_
    · subst hx
      refine g_catch (x := 2) [] [⟨0, 10, 17, 13⟩] ⟨0, 10, 13, 19⟩ hX hT rfl (fun z hz => by cases hz) (by decide) (by decide) q_1215 (va_Nw.use rfl hX.2.2.2.2.2.2.2.2.1.2.2.2.2.2.2.1) rfl (fun q9 => ?_)
      refine g_astoreS 15 4 [(4, .retAddr q9), (0, .ref a0), (1, .int x1), (2, .int x2), (3, .ref a3)] hX dL_join_13 rfl (Nat.le_of_ble_eq_true rfl) rfl ?_
      refine g_iconst 16 hX 1 dL_join_15 rfl kc_i_1 ?_
      exact g_iret (b0 := ((1, M2) : Int32 × kMem)) hX hr rfl (Nat.le_refl _) (Nat.le_refl _) dL_join_16
    refine g_xif 3 (fun hx => ?_) ?_
    · subst hx
      refine g_catch (x := 3) [⟨0, 10, 13, 19⟩] [] ⟨0, 10, 17, 13⟩ hX hT rfl (fun z hz => by cases List.mem_singleton.mp hz; exact Or.inr ⟨by decide, "java/lang/IllegalArgumentException", q_1215, hN.2.2⟩) (by decide) (by decide) q_1133 (va_Nw.use rfl hX.2.2.2.2.2.2.2.2.1.2.2.2.2.2.2.2) rfl (fun q9 => ?_)
      refine g_astoreS 19 4 [(4, .retAddr q9), (0, .ref a0), (1, .int x1), (2, .int x2), (3, .ref a3)] hX dL_join_17 rfl (Nat.le_of_ble_eq_true rfl) rfl ?_
      refine g_iconst 20 hX 2 dL_join_19 rfl kc_i_2 ?_
      exact g_iret (b0 := ((2, M2) : Int32 × kMem)) hX hr rfl (Nat.le_refl _) (Nat.le_refl _) dL_join_20
    exact g_xnone
def F_L_buySeat (N : Nat) (M : kMem) (a0 : Nat) (x1 : Int32) (x2 : Int32) (x3 : Int32) (a4 : Nat) : Option (Int32 × kMem) :=
    kg (kt M a0 11) <| kbc (F_X11_buySeat N M a0 x1 x2 x3) (fun r1 M2 =>
      kg (kin M2 a4 15 0) <| kl (ksL M2 a4 (kx 0) r1.toInt64) fun M3 =>
      some (0, M3)) (fun x M2 =>
      if x = 1 then (some (1, M2)) else if x = 3 then (some (2, M2)) else none)
set_option maxRecDepth 100000 in
set_option maxHeartbeats 4000000 in
theorem k_L_buySeat (l : Launch) (g : kG) (hf : l.flags = flags0) (N : Nat) (M : kMem) (a0 : Nat) (x1 : Int32) (x2 : Int32) (x3 : Int32) (a4 : Nat) : kMetH l g yL_buySeat cL_buySeat 6 (some .int) [(0, 12, 15, 24), (0, 12, 19, 13)] 7 4 24 [.ref a0, .int x1, .int x2, .int x3, .ref a4] M (fun r : Int32 × kMem => (some (.int r.1), r.2)) (F_L_buySeat N M a0 x1 x2 x3 a4) := by
  refine k_ofH (lv := [(0, .ref a0), (1, .int x1), (2, .int x2), (3, .int x3), (4, .ref a4)]) RL (by decide) rfl rfl (Nat.le_of_ble_eq_true rfl) ?_
  intro p e s m args below meth c hX hr hT hN
  unfold F_L_buySeat
  refine g_aload 2 4 hX dL_buySeat_0 rfl rfl ?_
  refine g_iconst 3 hX 0 dL_buySeat_2 rfl kc_i_0 ?_
  refine g_aload_n 4 0 hX dL_buySeat_3 rfl rfl ?_
  refine g_iload_n 5 1 hX dL_buySeat_4 rfl rfl ?_
  refine g_iload_n 6 2 hX dL_buySeat_5 rfl rfl ?_
  refine g_iload_n 7 3 hX dL_buySeat_6 rfl rfl ?_
  refine g_callVC 10 hX (k_X11_buySeat l g hf N M a0 x1 x2 x3) lk_X11_buySeat rfl (ci := 11) rfl (Nat.le_of_ble_eq_true rfl) q_1506 q_1508 (by omega) rfl (Nat.le_of_ble_eq_true rfl) (by decide) (by decide) dL_buySeat_7 rfl (fun r1 M2 => ?_) (fun x M2 => ?_)
  · refine g_i2l 11 hX dL_buySeat_10 rfl ?_
    refine g_last 12 hX dL_buySeat_11 rfl ?_
    refine g_klM (fun M3 hM3 => ?_)
    refine g_goto 23 hX dL_buySeat_12 (by decide) ?_
    refine g_iconst 24 hX 0 dL_buySeat_23 rfl kc_i_0 ?_
    exact g_iret (b0 := ((0, M3) : Int32 × kMem)) hX hr rfl (Nat.le_refl _) (Nat.le_refl _) dL_buySeat_24
  · refine g_xif 1 (fun hx => ?_) ?_
    · subst hx
      refine g_catch (x := 1) [] [⟨0, 12, 19, 13⟩] ⟨0, 12, 15, 24⟩ hX hT rfl (fun z hz => by cases hz) (by decide) (by decide) q_1242 (va_Nw.use rfl hX.2.2.2.2.2.2.2.2.1.2.2.2.2.2.1) rfl (fun q9 => ?_)
      refine g_astoreS 17 5 [(5, .retAddr q9), (0, .ref a0), (1, .int x1), (2, .int x2), (3, .int x3), (4, .ref a4)] hX dL_buySeat_15 rfl (Nat.le_of_ble_eq_true rfl) rfl ?_
      refine g_iconst 18 hX 1 dL_buySeat_17 rfl kc_i_1 ?_
      exact g_iret (b0 := ((1, M2) : Int32 × kMem)) hX hr rfl (Nat.le_refl _) (Nat.le_refl _) dL_buySeat_18
    refine g_xif 3 (fun hx => ?_) ?_
    · subst hx
      refine g_catch (x := 3) [⟨0, 12, 15, 24⟩] [] ⟨0, 12, 19, 13⟩ hX hT rfl (fun z hz => by cases List.mem_singleton.mp hz; exact Or.inr ⟨by decide, "java/lang/IndexOutOfBoundsException", q_1242, hN.2.1⟩) (by decide) (by decide) q_1133 (va_Nw.use rfl hX.2.2.2.2.2.2.2.2.1.2.2.2.2.2.2.2) rfl (fun q9 => ?_)
      refine g_astoreS 21 5 [(5, .retAddr q9), (0, .ref a0), (1, .int x1), (2, .int x2), (3, .int x3), (4, .ref a4)] hX dL_buySeat_19 rfl (Nat.le_of_ble_eq_true rfl) rfl ?_
      refine g_iconst 22 hX 2 dL_buySeat_21 rfl kc_i_2 ?_
      exact g_iret (b0 := ((2, M2) : Int32 × kMem)) hX hr rfl (Nat.le_refl _) (Nat.le_refl _) dL_buySeat_22
    exact g_xnone
def F_L_leaveSeat (N : Nat) (M : kMem) (a0 : Nat) (x1 : Int32) (a2 : Nat) : Option (Int32 × kMem) :=
    kg (kt M a0 11) <| kbc (F_X11_leaveSeat N M a0 x1) (fun r1 M2 =>
      kg (kin M2 a2 15 0) <| kl (ksL M2 a2 (kx 0) r1.toInt64) fun M3 =>
      some (0, M3)) (fun x M2 =>
      if x = 1 then (some (1, M2)) else if x = 3 then (some (2, M2)) else none)
set_option maxRecDepth 100000 in
set_option maxHeartbeats 4000000 in
theorem k_L_leaveSeat (l : Launch) (g : kG) (hf : l.flags = flags0) (N : Nat) (M : kMem) (a0 : Nat) (x1 : Int32) (a2 : Nat) : kMetH l g yL_leaveSeat cL_leaveSeat 4 (some .int) [(0, 9, 12, 24), (0, 9, 15, 13)] 6 2 12 [.ref a0, .int x1, .ref a2] M (fun r : Int32 × kMem => (some (.int r.1), r.2)) (F_L_leaveSeat N M a0 x1 a2) := by
  refine k_ofH (lv := [(0, .ref a0), (1, .int x1), (2, .ref a2)]) RL (by decide) rfl rfl (Nat.le_of_ble_eq_true rfl) ?_
  intro p e s m args below meth c hX hr hT hN
  unfold F_L_leaveSeat
  refine g_aload_n 1 2 hX dL_leaveSeat_0 rfl rfl ?_
  refine g_iconst 2 hX 0 dL_leaveSeat_1 rfl kc_i_0 ?_
  refine g_aload_n 3 0 hX dL_leaveSeat_2 rfl rfl ?_
  refine g_iload_n 4 1 hX dL_leaveSeat_3 rfl rfl ?_
  refine g_callVC 7 hX (k_X11_leaveSeat l g hf N M a0 x1) lk_X11_leaveSeat rfl (ci := 11) rfl (Nat.le_of_ble_eq_true rfl) q_1518 q_1520 (by omega) rfl (Nat.le_of_ble_eq_true rfl) (by decide) (by decide) dL_leaveSeat_4 rfl (fun r1 M2 => ?_) (fun x M2 => ?_)
  · refine g_i2l 8 hX dL_leaveSeat_7 rfl ?_
    refine g_last 9 hX dL_leaveSeat_8 rfl ?_
    refine g_klM (fun M3 hM3 => ?_)
    refine g_goto 18 hX dL_leaveSeat_9 (by decide) ?_
    refine g_iconst 19 hX 0 dL_leaveSeat_18 rfl kc_i_0 ?_
    exact g_iret (b0 := ((0, M3) : Int32 × kMem)) hX hr rfl (Nat.le_refl _) (Nat.le_refl _) dL_leaveSeat_19
  · refine g_xif 1 (fun hx => ?_) ?_
    · subst hx
      refine g_catch (x := 1) [] [⟨0, 9, 15, 13⟩] ⟨0, 9, 12, 24⟩ hX hT rfl (fun z hz => by cases hz) (by decide) (by decide) q_1242 (va_Nw.use rfl hX.2.2.2.2.2.2.2.2.1.2.2.2.2.2.1) rfl (fun q9 => ?_)
      refine g_astoreS_n 13 3 [(3, .retAddr q9), (0, .ref a0), (1, .int x1), (2, .ref a2)] hX dL_leaveSeat_12 rfl rfl (Nat.le_of_ble_eq_true rfl) rfl ?_
      refine g_iconst 14 hX 1 dL_leaveSeat_13 rfl kc_i_1 ?_
      exact g_iret (b0 := ((1, M2) : Int32 × kMem)) hX hr rfl (Nat.le_refl _) (Nat.le_refl _) dL_leaveSeat_14
    refine g_xif 3 (fun hx => ?_) ?_
    · subst hx
      refine g_catch (x := 3) [⟨0, 9, 12, 24⟩] [] ⟨0, 9, 15, 13⟩ hX hT rfl (fun z hz => by cases List.mem_singleton.mp hz; exact Or.inr ⟨by decide, "java/lang/IndexOutOfBoundsException", q_1242, hN.2.1⟩) (by decide) (by decide) q_1133 (va_Nw.use rfl hX.2.2.2.2.2.2.2.2.1.2.2.2.2.2.2.2) rfl (fun q9 => ?_)
      refine g_astoreS_n 16 3 [(3, .retAddr q9), (0, .ref a0), (1, .int x1), (2, .ref a2)] hX dL_leaveSeat_15 rfl rfl (Nat.le_of_ble_eq_true rfl) rfl ?_
      refine g_iconst 17 hX 2 dL_leaveSeat_16 rfl kc_i_2 ?_
      exact g_iret (b0 := ((2, M2) : Int32 × kMem)) hX hr rfl (Nat.le_refl _) (Nat.le_refl _) dL_leaveSeat_17
    exact g_xnone
def F_L_sellWeight (N : Nat) (M : kMem) (a0 : Nat) (x1 : Int32) (x2 : Int32) (x3 : Int32) (a4 : Nat) : Option (Int32 × kMem) :=
    kg (kt M a0 11) <| kbc (F_X11_sellWeight N M a0 x1 x2 x3) (fun r1 M2 =>
      kg (kin M2 a4 15 0) <| kl (ksL M2 a4 (kx 0) r1.toInt64) fun M3 =>
      some (0, M3)) (fun x M2 =>
      if x = 1 then (some (1, M2)) else if x = 2 then (some (2, M2)) else if x = 3 then (some (3, M2)) else none)
set_option maxRecDepth 100000 in
set_option maxHeartbeats 4000000 in
theorem k_L_sellWeight (l : Launch) (g : kG) (hf : l.flags = flags0) (N : Nat) (M : kMem) (a0 : Nat) (x1 : Int32) (x2 : Int32) (x3 : Int32) (a4 : Nat) : kMetH l g yL_sellWeight cL_sellWeight 6 (some .int) [(0, 12, 15, 24), (0, 12, 19, 19), (0, 12, 23, 13)] 6 5 30 [.ref a0, .int x1, .int x2, .int x3, .ref a4] M (fun r : Int32 × kMem => (some (.int r.1), r.2)) (F_L_sellWeight N M a0 x1 x2 x3 a4) := by
  refine k_ofH (lv := [(0, .ref a0), (1, .int x1), (2, .int x2), (3, .int x3), (4, .ref a4)]) RL (by decide) rfl rfl (Nat.le_of_ble_eq_true rfl) ?_
  intro p e s m args below meth c hX hr hT hN
  unfold F_L_sellWeight
  refine g_aload 2 4 hX dL_sellWeight_0 rfl rfl ?_
  refine g_iconst 3 hX 0 dL_sellWeight_2 rfl kc_i_0 ?_
  refine g_aload_n 4 0 hX dL_sellWeight_3 rfl rfl ?_
  refine g_iload_n 5 1 hX dL_sellWeight_4 rfl rfl ?_
  refine g_iload_n 6 2 hX dL_sellWeight_5 rfl rfl ?_
  refine g_iload_n 7 3 hX dL_sellWeight_6 rfl rfl ?_
  refine g_callVC 10 hX (k_X11_sellWeight l g hf N M a0 x1 x2 x3) lk_X11_sellWeight rfl (ci := 11) rfl (Nat.le_of_ble_eq_true rfl) q_1526 q_1528 (by omega) rfl (Nat.le_of_ble_eq_true rfl) (by decide) (by decide) dL_sellWeight_7 rfl (fun r1 M2 => ?_) (fun x M2 => ?_)
  · refine g_i2l 11 hX dL_sellWeight_10 rfl ?_
    refine g_last 12 hX dL_sellWeight_11 rfl ?_
    refine g_klM (fun M3 hM3 => ?_)
    refine g_goto 27 hX dL_sellWeight_12 (by decide) ?_
    refine g_iconst 28 hX 0 dL_sellWeight_27 rfl kc_i_0 ?_
    exact g_iret (b0 := ((0, M3) : Int32 × kMem)) hX hr rfl (Nat.le_refl _) (Nat.le_refl _) dL_sellWeight_28
  · refine g_xif 1 (fun hx => ?_) ?_
    · subst hx
      refine g_catch (x := 1) [] [⟨0, 12, 19, 19⟩, ⟨0, 12, 23, 13⟩] ⟨0, 12, 15, 24⟩ hX hT rfl (fun z hz => by cases hz) (by decide) (by decide) q_1242 (va_Nw.use rfl hX.2.2.2.2.2.2.2.2.1.2.2.2.2.2.1) rfl (fun q9 => ?_)
      refine g_astoreS 17 5 [(5, .retAddr q9), (0, .ref a0), (1, .int x1), (2, .int x2), (3, .int x3), (4, .ref a4)] hX dL_sellWeight_15 rfl (Nat.le_of_ble_eq_true rfl) rfl ?_
      refine g_iconst 18 hX 1 dL_sellWeight_17 rfl kc_i_1 ?_
      exact g_iret (b0 := ((1, M2) : Int32 × kMem)) hX hr rfl (Nat.le_refl _) (Nat.le_refl _) dL_sellWeight_18
    refine g_xif 2 (fun hx => ?_) ?_
    · subst hx
      refine g_catch (x := 2) [⟨0, 12, 15, 24⟩] [⟨0, 12, 23, 13⟩] ⟨0, 12, 19, 19⟩ hX hT rfl (fun z hz => by cases List.mem_singleton.mp hz; exact Or.inr ⟨by decide, "java/lang/IndexOutOfBoundsException", q_1242, hN.1⟩) (by decide) (by decide) q_1215 (va_Nw.use rfl hX.2.2.2.2.2.2.2.2.1.2.2.2.2.2.2.1) rfl (fun q9 => ?_)
      refine g_astoreS 21 5 [(5, .retAddr q9), (0, .ref a0), (1, .int x1), (2, .int x2), (3, .int x3), (4, .ref a4)] hX dL_sellWeight_19 rfl (Nat.le_of_ble_eq_true rfl) rfl ?_
      refine g_iconst 22 hX 2 dL_sellWeight_21 rfl kc_i_2 ?_
      exact g_iret (b0 := ((2, M2) : Int32 × kMem)) hX hr rfl (Nat.le_refl _) (Nat.le_refl _) dL_sellWeight_22
    refine g_xif 3 (fun hx => ?_) ?_
    · subst hx
      refine g_catch (x := 3) [⟨0, 12, 15, 24⟩, ⟨0, 12, 19, 19⟩] [] ⟨0, 12, 23, 13⟩ hX hT rfl (fun z hz => by rcases List.mem_cons.mp hz with h | h; (cases h; exact Or.inr ⟨by decide, "java/lang/IndexOutOfBoundsException", q_1242, hN.2.1⟩); (cases List.mem_singleton.mp h; exact Or.inr ⟨by decide, "java/lang/IllegalArgumentException", q_1215, hN.2.2⟩)) (by decide) (by decide) q_1133 (va_Nw.use rfl hX.2.2.2.2.2.2.2.2.1.2.2.2.2.2.2.2) rfl (fun q9 => ?_)
      refine g_astoreS 25 5 [(5, .retAddr q9), (0, .ref a0), (1, .int x1), (2, .int x2), (3, .int x3), (4, .ref a4)] hX dL_sellWeight_23 rfl (Nat.le_of_ble_eq_true rfl) rfl ?_
      refine g_iconst 26 hX 3 dL_sellWeight_25 rfl kc_i_3 ?_
      exact g_iret (b0 := ((3, M2) : Int32 × kMem)) hX hr rfl (Nat.le_refl _) (Nat.le_refl _) dL_sellWeight_26
    exact g_xnone
def F_L_swapSeats (N : Nat) (M : kMem) (a0 : Nat) (x1 : Int32) (x2 : Int32) (a3 : Nat) : Option (Int32 × kMem) :=
    kg (kt M a0 11) <| kbc (F_X11_swapSeats N M a0 x1 x2) (fun r1 M2 =>
      kg (kin M2 a3 15 0) <| kl (ksL M2 a3 (kx 0) r1.toInt64) fun M3 =>
      some (0, M3)) (fun x M2 =>
      if x = 1 then (some (1, M2)) else if x = 2 then (some (2, M2)) else if x = 3 then (some (3, M2)) else none)
set_option maxRecDepth 100000 in
set_option maxHeartbeats 4000000 in
theorem k_L_swapSeats (l : Launch) (g : kG) (hf : l.flags = flags0) (N : Nat) (M : kMem) (a0 : Nat) (x1 : Int32) (x2 : Int32) (a3 : Nat) : kMetH l g yL_swapSeats cL_swapSeats 5 (some .int) [(0, 10, 13, 24), (0, 10, 17, 19), (0, 10, 21, 13)] 6 4 24 [.ref a0, .int x1, .int x2, .ref a3] M (fun r : Int32 × kMem => (some (.int r.1), r.2)) (F_L_swapSeats N M a0 x1 x2 a3) := by
  refine k_ofH (lv := [(0, .ref a0), (1, .int x1), (2, .int x2), (3, .ref a3)]) RL (by decide) rfl rfl (Nat.le_of_ble_eq_true rfl) ?_
  intro p e s m args below meth c hX hr hT hN
  unfold F_L_swapSeats
  refine g_aload_n 1 3 hX dL_swapSeats_0 rfl rfl ?_
  refine g_iconst 2 hX 0 dL_swapSeats_1 rfl kc_i_0 ?_
  refine g_aload_n 3 0 hX dL_swapSeats_2 rfl rfl ?_
  refine g_iload_n 4 1 hX dL_swapSeats_3 rfl rfl ?_
  refine g_iload_n 5 2 hX dL_swapSeats_4 rfl rfl ?_
  refine g_callVC 8 hX (k_X11_swapSeats l g hf N M a0 x1 x2) lk_X11_swapSeats rfl (ci := 11) rfl (Nat.le_of_ble_eq_true rfl) q_1534 q_1536 (by omega) rfl (Nat.le_of_ble_eq_true rfl) (by decide) (by decide) dL_swapSeats_5 rfl (fun r1 M2 => ?_) (fun x M2 => ?_)
  · refine g_i2l 9 hX dL_swapSeats_8 rfl ?_
    refine g_last 10 hX dL_swapSeats_9 rfl ?_
    refine g_klM (fun M3 hM3 => ?_)
    refine g_goto 25 hX dL_swapSeats_10 (by decide) ?_
    refine g_iconst 26 hX 0 dL_swapSeats_25 rfl kc_i_0 ?_
    exact g_iret (b0 := ((0, M3) : Int32 × kMem)) hX hr rfl (Nat.le_refl _) (Nat.le_refl _) dL_swapSeats_26
  · refine g_xif 1 (fun hx => ?_) ?_
    · subst hx
      refine g_catch (x := 1) [] [⟨0, 10, 17, 19⟩, ⟨0, 10, 21, 13⟩] ⟨0, 10, 13, 24⟩ hX hT rfl (fun z hz => by cases hz) (by decide) (by decide) q_1242 (va_Nw.use rfl hX.2.2.2.2.2.2.2.2.1.2.2.2.2.2.1) rfl (fun q9 => ?_)
      refine g_astoreS 15 4 [(4, .retAddr q9), (0, .ref a0), (1, .int x1), (2, .int x2), (3, .ref a3)] hX dL_swapSeats_13 rfl (Nat.le_of_ble_eq_true rfl) rfl ?_
      refine g_iconst 16 hX 1 dL_swapSeats_15 rfl kc_i_1 ?_
      exact g_iret (b0 := ((1, M2) : Int32 × kMem)) hX hr rfl (Nat.le_refl _) (Nat.le_refl _) dL_swapSeats_16
    refine g_xif 2 (fun hx => ?_) ?_
    · subst hx
      refine g_catch (x := 2) [⟨0, 10, 13, 24⟩] [⟨0, 10, 21, 13⟩] ⟨0, 10, 17, 19⟩ hX hT rfl (fun z hz => by cases List.mem_singleton.mp hz; exact Or.inr ⟨by decide, "java/lang/IndexOutOfBoundsException", q_1242, hN.1⟩) (by decide) (by decide) q_1215 (va_Nw.use rfl hX.2.2.2.2.2.2.2.2.1.2.2.2.2.2.2.1) rfl (fun q9 => ?_)
      refine g_astoreS 19 4 [(4, .retAddr q9), (0, .ref a0), (1, .int x1), (2, .int x2), (3, .ref a3)] hX dL_swapSeats_17 rfl (Nat.le_of_ble_eq_true rfl) rfl ?_
      refine g_iconst 20 hX 2 dL_swapSeats_19 rfl kc_i_2 ?_
      exact g_iret (b0 := ((2, M2) : Int32 × kMem)) hX hr rfl (Nat.le_refl _) (Nat.le_refl _) dL_swapSeats_20
    refine g_xif 3 (fun hx => ?_) ?_
    · subst hx
      refine g_catch (x := 3) [⟨0, 10, 13, 24⟩, ⟨0, 10, 17, 19⟩] [] ⟨0, 10, 21, 13⟩ hX hT rfl (fun z hz => by rcases List.mem_cons.mp hz with h | h; (cases h; exact Or.inr ⟨by decide, "java/lang/IndexOutOfBoundsException", q_1242, hN.2.1⟩); (cases List.mem_singleton.mp h; exact Or.inr ⟨by decide, "java/lang/IllegalArgumentException", q_1215, hN.2.2⟩)) (by decide) (by decide) q_1133 (va_Nw.use rfl hX.2.2.2.2.2.2.2.2.1.2.2.2.2.2.2.2) rfl (fun q9 => ?_)
      refine g_astoreS 23 4 [(4, .retAddr q9), (0, .ref a0), (1, .int x1), (2, .int x2), (3, .ref a3)] hX dL_swapSeats_21 rfl (Nat.le_of_ble_eq_true rfl) rfl ?_
      refine g_iconst 24 hX 3 dL_swapSeats_23 rfl kc_i_3 ?_
      exact g_iret (b0 := ((3, M2) : Int32 × kMem)) hX hr rfl (Nat.le_refl _) (Nat.le_refl _) dL_swapSeats_24
    exact g_xnone
def F_L_setWage (N : Nat) (M : kMem) (a0 : Nat) (x1 : Int32) (a2 : Nat) : Option (Int32 × kMem) :=
    kg (kt M a0 11) <| kbc (F_X11_setWage N M a0 x1) (fun r1 M2 =>
      kg (kin M2 a2 15 0) <| kl (ksL M2 a2 (kx 0) r1.toInt64) fun M3 =>
      some (0, M3)) (fun x M2 =>
      if x = 2 then (some (1, M2)) else none)
set_option maxRecDepth 100000 in
set_option maxHeartbeats 4000000 in
theorem k_L_setWage (l : Launch) (g : kG) (hf : l.flags = flags0) (N : Nat) (M : kMem) (a0 : Nat) (x1 : Int32) (a2 : Nat) : kMetH l g yL_setWage cL_setWage 4 (some .int) [(0, 9, 12, 19)] 6 1 6 [.ref a0, .int x1, .ref a2] M (fun r : Int32 × kMem => (some (.int r.1), r.2)) (F_L_setWage N M a0 x1 a2) := by
  refine k_ofH (lv := [(0, .ref a0), (1, .int x1), (2, .ref a2)]) RL (by decide) rfl rfl (Nat.le_of_ble_eq_true rfl) ?_
  intro p e s m args below meth c hX hr hT hN
  unfold F_L_setWage
  refine g_aload_n 1 2 hX dL_setWage_0 rfl rfl ?_
  refine g_iconst 2 hX 0 dL_setWage_1 rfl kc_i_0 ?_
  refine g_aload_n 3 0 hX dL_setWage_2 rfl rfl ?_
  refine g_iload_n 4 1 hX dL_setWage_3 rfl rfl ?_
  refine g_callVC 7 hX (k_X11_setWage l g hf N M a0 x1) lk_X11_setWage rfl (ci := 11) rfl (Nat.le_of_ble_eq_true rfl) q_1542 q_1544 (by omega) rfl (Nat.le_of_ble_eq_true rfl) (by decide) (by decide) dL_setWage_4 rfl (fun r1 M2 => ?_) (fun x M2 => ?_)
  · refine g_i2l 8 hX dL_setWage_7 rfl ?_
    refine g_last 9 hX dL_setWage_8 rfl ?_
    refine g_klM (fun M3 hM3 => ?_)
    refine g_goto 15 hX dL_setWage_9 (by decide) ?_
    refine g_iconst 16 hX 0 dL_setWage_15 rfl kc_i_0 ?_
    exact g_iret (b0 := ((0, M3) : Int32 × kMem)) hX hr rfl (Nat.le_refl _) (Nat.le_refl _) dL_setWage_16
  · refine g_xif 2 (fun hx => ?_) ?_
    · subst hx
      refine g_catch (x := 2) [] [] ⟨0, 9, 12, 19⟩ hX hT rfl (fun z hz => by cases hz) (by decide) (by decide) q_1215 (va_Nw.use rfl hX.2.2.2.2.2.2.2.2.1.2.2.2.2.2.2.1) rfl (fun q9 => ?_)
      refine g_astoreS_n 13 3 [(3, .retAddr q9), (0, .ref a0), (1, .int x1), (2, .ref a2)] hX dL_setWage_12 rfl rfl (Nat.le_of_ble_eq_true rfl) rfl ?_
      refine g_iconst 14 hX 1 dL_setWage_13 rfl kc_i_1 ?_
      exact g_iret (b0 := ((1, M2) : Int32 × kMem)) hX hr rfl (Nat.le_refl _) (Nat.le_refl _) dL_setWage_14
    exact g_xnone
def F_L_advance (N : Nat) (M : kMem) (a0 : Nat) (x1 : Int32) (a2 : Nat) : Option (Int32 × kMem) :=
    kg (kt M a0 11) <| kbc (F_X11_advance N M a0 x1) (fun r1 M2 =>
      kg (kin M2 a2 15 0) <| kl (ksL M2 a2 (kx 0) r1.toInt64) fun M3 =>
      some (0, M3)) (fun x M2 =>
      if x = 2 then (some (1, M2)) else if x = 3 then (some (2, M2)) else none)
set_option maxRecDepth 100000 in
set_option maxHeartbeats 4000000 in
theorem k_L_advance (l : Launch) (g : kG) (hf : l.flags = flags0) (N : Nat) (M : kMem) (a0 : Nat) (x1 : Int32) (a2 : Nat) : kMetH l g yL_advance cL_advance 4 (some .int) [(0, 9, 12, 19), (0, 9, 15, 13)] 7 2 12 [.ref a0, .int x1, .ref a2] M (fun r : Int32 × kMem => (some (.int r.1), r.2)) (F_L_advance N M a0 x1 a2) := by
  refine k_ofH (lv := [(0, .ref a0), (1, .int x1), (2, .ref a2)]) RL (by decide) rfl rfl (Nat.le_of_ble_eq_true rfl) ?_
  intro p e s m args below meth c hX hr hT hN
  unfold F_L_advance
  refine g_aload_n 1 2 hX dL_advance_0 rfl rfl ?_
  refine g_iconst 2 hX 0 dL_advance_1 rfl kc_i_0 ?_
  refine g_aload_n 3 0 hX dL_advance_2 rfl rfl ?_
  refine g_iload_n 4 1 hX dL_advance_3 rfl rfl ?_
  refine g_callVC 7 hX (k_X11_advance l g hf N M a0 x1) lk_X11_advance rfl (ci := 11) rfl (Nat.le_of_ble_eq_true rfl) q_1549 q_1551 (by omega) rfl (Nat.le_of_ble_eq_true rfl) (by decide) (by decide) dL_advance_4 rfl (fun r1 M2 => ?_) (fun x M2 => ?_)
  · refine g_i2l 8 hX dL_advance_7 rfl ?_
    refine g_last 9 hX dL_advance_8 rfl ?_
    refine g_klM (fun M3 hM3 => ?_)
    refine g_goto 18 hX dL_advance_9 (by decide) ?_
    refine g_iconst 19 hX 0 dL_advance_18 rfl kc_i_0 ?_
    exact g_iret (b0 := ((0, M3) : Int32 × kMem)) hX hr rfl (Nat.le_refl _) (Nat.le_refl _) dL_advance_19
  · refine g_xif 2 (fun hx => ?_) ?_
    · subst hx
      refine g_catch (x := 2) [] [⟨0, 9, 15, 13⟩] ⟨0, 9, 12, 19⟩ hX hT rfl (fun z hz => by cases hz) (by decide) (by decide) q_1215 (va_Nw.use rfl hX.2.2.2.2.2.2.2.2.1.2.2.2.2.2.2.1) rfl (fun q9 => ?_)
      refine g_astoreS_n 13 3 [(3, .retAddr q9), (0, .ref a0), (1, .int x1), (2, .ref a2)] hX dL_advance_12 rfl rfl (Nat.le_of_ble_eq_true rfl) rfl ?_
      refine g_iconst 14 hX 1 dL_advance_13 rfl kc_i_1 ?_
      exact g_iret (b0 := ((1, M2) : Int32 × kMem)) hX hr rfl (Nat.le_refl _) (Nat.le_refl _) dL_advance_14
    refine g_xif 3 (fun hx => ?_) ?_
    · subst hx
      refine g_catch (x := 3) [⟨0, 9, 12, 19⟩] [] ⟨0, 9, 15, 13⟩ hX hT rfl (fun z hz => by cases List.mem_singleton.mp hz; exact Or.inr ⟨by decide, "java/lang/IllegalArgumentException", q_1215, hN.2.2⟩) (by decide) (by decide) q_1133 (va_Nw.use rfl hX.2.2.2.2.2.2.2.2.1.2.2.2.2.2.2.2) rfl (fun q9 => ?_)
      refine g_astoreS_n 16 3 [(3, .retAddr q9), (0, .ref a0), (1, .int x1), (2, .ref a2)] hX dL_advance_15 rfl rfl (Nat.le_of_ble_eq_true rfl) rfl ?_
      refine g_iconst 17 hX 2 dL_advance_16 rfl kc_i_2 ?_
      exact g_iret (b0 := ((2, M2) : Int32 × kMem)) hX hr rfl (Nat.le_refl _) (Nat.le_refl _) dL_advance_17
    exact g_xnone
def F_L_writeBoard (N : Nat) (M : kMem) (a0 : Nat) (x1 : Int32) (a2 : Nat) : Option (Int32 × kMem) :=
    kg (kt M a0 11) <| kbc (F_X11_writeBoard N M a0 x1) (fun r1 M2 =>
      kg (kin M2 a2 15 0) <| kl (ksL M2 a2 (kx 0) r1.toInt64) fun M3 =>
      some (0, M3)) (fun x M2 =>
      if x = 1 then (some (1, M2)) else none)
set_option maxRecDepth 100000 in
set_option maxHeartbeats 4000000 in
theorem k_L_writeBoard (l : Launch) (g : kG) (hf : l.flags = flags0) (N : Nat) (M : kMem) (a0 : Nat) (x1 : Int32) (a2 : Nat) : kMetH l g yL_writeBoard cL_writeBoard 4 (some .int) [(0, 9, 12, 24)] 6 1 6 [.ref a0, .int x1, .ref a2] M (fun r : Int32 × kMem => (some (.int r.1), r.2)) (F_L_writeBoard N M a0 x1 a2) := by
  refine k_ofH (lv := [(0, .ref a0), (1, .int x1), (2, .ref a2)]) RL (by decide) rfl rfl (Nat.le_of_ble_eq_true rfl) ?_
  intro p e s m args below meth c hX hr hT hN
  unfold F_L_writeBoard
  refine g_aload_n 1 2 hX dL_writeBoard_0 rfl rfl ?_
  refine g_iconst 2 hX 0 dL_writeBoard_1 rfl kc_i_0 ?_
  refine g_aload_n 3 0 hX dL_writeBoard_2 rfl rfl ?_
  refine g_iload_n 4 1 hX dL_writeBoard_3 rfl rfl ?_
  refine g_callVC 7 hX (k_X11_writeBoard l g hf N M a0 x1) lk_X11_writeBoard rfl (ci := 11) rfl (Nat.le_of_ble_eq_true rfl) q_1558 q_1560 (by omega) rfl (Nat.le_of_ble_eq_true rfl) (by decide) (by decide) dL_writeBoard_4 rfl (fun r1 M2 => ?_) (fun x M2 => ?_)
  · refine g_i2l 8 hX dL_writeBoard_7 rfl ?_
    refine g_last 9 hX dL_writeBoard_8 rfl ?_
    refine g_klM (fun M3 hM3 => ?_)
    refine g_goto 15 hX dL_writeBoard_9 (by decide) ?_
    refine g_iconst 16 hX 0 dL_writeBoard_15 rfl kc_i_0 ?_
    exact g_iret (b0 := ((0, M3) : Int32 × kMem)) hX hr rfl (Nat.le_refl _) (Nat.le_refl _) dL_writeBoard_16
  · refine g_xif 1 (fun hx => ?_) ?_
    · subst hx
      refine g_catch (x := 1) [] [] ⟨0, 9, 12, 24⟩ hX hT rfl (fun z hz => by cases hz) (by decide) (by decide) q_1242 (va_Nw.use rfl hX.2.2.2.2.2.2.2.2.1.2.2.2.2.2.1) rfl (fun q9 => ?_)
      refine g_astoreS_n 13 3 [(3, .retAddr q9), (0, .ref a0), (1, .int x1), (2, .ref a2)] hX dL_writeBoard_12 rfl rfl (Nat.le_of_ble_eq_true rfl) rfl ?_
      refine g_iconst 14 hX 1 dL_writeBoard_13 rfl kc_i_1 ?_
      exact g_iret (b0 := ((1, M2) : Int32 × kMem)) hX hr rfl (Nat.le_refl _) (Nat.le_refl _) dL_writeBoard_14
    exact g_xnone
def F_L_undo (N : Nat) (M : kMem) (a0 : Nat) (a1 : Nat) : Option (Int32 × kMem) :=
    kg (kt M a0 11) <| kbc (F_X11_undo N M a0) (fun r1 M2 =>
      kg (kin M2 a1 15 0) <| kl (ksL M2 a1 (kx 0) r1.toInt64) fun M3 =>
      some (0, M3)) (fun x M2 =>
      if x = 3 then (some (1, M2)) else none)
set_option maxRecDepth 100000 in
set_option maxHeartbeats 4000000 in
theorem k_L_undo (l : Launch) (g : kG) (hf : l.flags = flags0) (N : Nat) (M : kMem) (a0 : Nat) (a1 : Nat) : kMetH l g yL_undo cL_undo 3 (some .int) [(0, 8, 11, 13)] 5 1 6 [.ref a0, .ref a1] M (fun r : Int32 × kMem => (some (.int r.1), r.2)) (F_L_undo N M a0 a1) := by
  refine k_ofH (lv := [(0, .ref a0), (1, .ref a1)]) RL (by decide) rfl rfl (Nat.le_of_ble_eq_true rfl) ?_
  intro p e s m args below meth c hX hr hT hN
  unfold F_L_undo
  refine g_aload_n 1 1 hX dL_undo_0 rfl rfl ?_
  refine g_iconst 2 hX 0 dL_undo_1 rfl kc_i_0 ?_
  refine g_aload_n 3 0 hX dL_undo_2 rfl rfl ?_
  refine g_callVC 6 hX (k_X11_undo l g hf N M a0) lk_X11_undo rfl (ci := 11) rfl (Nat.le_of_ble_eq_true rfl) q_1575 q_1577 (by omega) rfl (Nat.le_of_ble_eq_true rfl) (by decide) (by decide) dL_undo_3 rfl (fun r1 M2 => ?_) (fun x M2 => ?_)
  · refine g_i2l 7 hX dL_undo_6 rfl ?_
    refine g_last 8 hX dL_undo_7 rfl ?_
    refine g_klM (fun M3 hM3 => ?_)
    refine g_goto 14 hX dL_undo_8 (by decide) ?_
    refine g_iconst 15 hX 0 dL_undo_14 rfl kc_i_0 ?_
    exact g_iret (b0 := ((0, M3) : Int32 × kMem)) hX hr rfl (Nat.le_refl _) (Nat.le_refl _) dL_undo_15
  · refine g_xif 3 (fun hx => ?_) ?_
    · subst hx
      refine g_catch (x := 3) [] [] ⟨0, 8, 11, 13⟩ hX hT rfl (fun z hz => by cases hz) (by decide) (by decide) q_1133 (va_Nw.use rfl hX.2.2.2.2.2.2.2.2.1.2.2.2.2.2.2.2) rfl (fun q9 => ?_)
      refine g_astoreS_n 12 2 [(2, .retAddr q9), (0, .ref a0), (1, .ref a1)] hX dL_undo_11 rfl rfl (Nat.le_of_ble_eq_true rfl) rfl ?_
      refine g_iconst 13 hX 1 dL_undo_12 rfl kc_i_1 ?_
      exact g_iret (b0 := ((1, M2) : Int32 × kMem)) hX hr rfl (Nat.le_refl _) (Nat.le_refl _) dL_undo_13
    exact g_xnone
def F_L_save (N : Nat) (M : kMem) (a0 : Nat) (x1 : Int32) (a2 : Nat) : Option (Int32 × kMem) :=
    kg (kt M a0 11) <| kbc (F_X11_save N M a0 x1) (fun r1 M2 =>
      kg (kin M2 a2 15 0) <| kl (ksL M2 a2 (kx 0) r1.toInt64) fun M3 =>
      some (0, M3)) (fun x M2 =>
      if x = 1 then (some (1, M2)) else none)
set_option maxRecDepth 100000 in
set_option maxHeartbeats 4000000 in
theorem k_L_save (l : Launch) (g : kG) (hf : l.flags = flags0) (N : Nat) (M : kMem) (a0 : Nat) (x1 : Int32) (a2 : Nat) : kMetH l g yL_save cL_save 4 (some .int) [(0, 9, 12, 24)] 6 1 6 [.ref a0, .int x1, .ref a2] M (fun r : Int32 × kMem => (some (.int r.1), r.2)) (F_L_save N M a0 x1 a2) := by
  refine k_ofH (lv := [(0, .ref a0), (1, .int x1), (2, .ref a2)]) RL (by decide) rfl rfl (Nat.le_of_ble_eq_true rfl) ?_
  intro p e s m args below meth c hX hr hT hN
  unfold F_L_save
  refine g_aload_n 1 2 hX dL_save_0 rfl rfl ?_
  refine g_iconst 2 hX 0 dL_save_1 rfl kc_i_0 ?_
  refine g_aload_n 3 0 hX dL_save_2 rfl rfl ?_
  refine g_iload_n 4 1 hX dL_save_3 rfl rfl ?_
  refine g_callVC 7 hX (k_X11_save l g hf N M a0 x1) lk_X11_save rfl (ci := 11) rfl (Nat.le_of_ble_eq_true rfl) q_1587 q_1589 (by omega) rfl (Nat.le_of_ble_eq_true rfl) (by decide) (by decide) dL_save_4 rfl (fun r1 M2 => ?_) (fun x M2 => ?_)
  · refine g_i2l 8 hX dL_save_7 rfl ?_
    refine g_last 9 hX dL_save_8 rfl ?_
    refine g_klM (fun M3 hM3 => ?_)
    refine g_goto 15 hX dL_save_9 (by decide) ?_
    refine g_iconst 16 hX 0 dL_save_15 rfl kc_i_0 ?_
    exact g_iret (b0 := ((0, M3) : Int32 × kMem)) hX hr rfl (Nat.le_refl _) (Nat.le_refl _) dL_save_16
  · refine g_xif 1 (fun hx => ?_) ?_
    · subst hx
      refine g_catch (x := 1) [] [] ⟨0, 9, 12, 24⟩ hX hT rfl (fun z hz => by cases hz) (by decide) (by decide) q_1242 (va_Nw.use rfl hX.2.2.2.2.2.2.2.2.1.2.2.2.2.2.1) rfl (fun q9 => ?_)
      refine g_astoreS_n 13 3 [(3, .retAddr q9), (0, .ref a0), (1, .int x1), (2, .ref a2)] hX dL_save_12 rfl rfl (Nat.le_of_ble_eq_true rfl) rfl ?_
      refine g_iconst 14 hX 1 dL_save_13 rfl kc_i_1 ?_
      exact g_iret (b0 := ((1, M2) : Int32 × kMem)) hX hr rfl (Nat.le_refl _) (Nat.le_refl _) dL_save_14
    exact g_xnone
def F_L_restore (N : Nat) (M : kMem) (a0 : Nat) (x1 : Int32) (a2 : Nat) : Option (Int32 × kMem) :=
    kg (kt M a0 11) <| kbc (F_X11_restore N M a0 x1) (fun r1 M2 =>
      kg (kin M2 a2 15 0) <| kl (ksL M2 a2 (kx 0) r1.toInt64) fun M3 =>
      some (0, M3)) (fun x M2 =>
      if x = 1 then (some (1, M2)) else if x = 3 then (some (2, M2)) else none)
set_option maxRecDepth 100000 in
set_option maxHeartbeats 4000000 in
theorem k_L_restore (l : Launch) (g : kG) (hf : l.flags = flags0) (N : Nat) (M : kMem) (a0 : Nat) (x1 : Int32) (a2 : Nat) : kMetH l g yL_restore cL_restore 4 (some .int) [(0, 9, 12, 24), (0, 9, 15, 13)] 6 2 12 [.ref a0, .int x1, .ref a2] M (fun r : Int32 × kMem => (some (.int r.1), r.2)) (F_L_restore N M a0 x1 a2) := by
  refine k_ofH (lv := [(0, .ref a0), (1, .int x1), (2, .ref a2)]) RL (by decide) rfl rfl (Nat.le_of_ble_eq_true rfl) ?_
  intro p e s m args below meth c hX hr hT hN
  unfold F_L_restore
  refine g_aload_n 1 2 hX dL_restore_0 rfl rfl ?_
  refine g_iconst 2 hX 0 dL_restore_1 rfl kc_i_0 ?_
  refine g_aload_n 3 0 hX dL_restore_2 rfl rfl ?_
  refine g_iload_n 4 1 hX dL_restore_3 rfl rfl ?_
  refine g_callVC 7 hX (k_X11_restore l g hf N M a0 x1) lk_X11_restore rfl (ci := 11) rfl (Nat.le_of_ble_eq_true rfl) q_1599 q_1601 (by omega) rfl (Nat.le_of_ble_eq_true rfl) (by decide) (by decide) dL_restore_4 rfl (fun r1 M2 => ?_) (fun x M2 => ?_)
  · refine g_i2l 8 hX dL_restore_7 rfl ?_
    refine g_last 9 hX dL_restore_8 rfl ?_
    refine g_klM (fun M3 hM3 => ?_)
    refine g_goto 18 hX dL_restore_9 (by decide) ?_
    refine g_iconst 19 hX 0 dL_restore_18 rfl kc_i_0 ?_
    exact g_iret (b0 := ((0, M3) : Int32 × kMem)) hX hr rfl (Nat.le_refl _) (Nat.le_refl _) dL_restore_19
  · refine g_xif 1 (fun hx => ?_) ?_
    · subst hx
      refine g_catch (x := 1) [] [⟨0, 9, 15, 13⟩] ⟨0, 9, 12, 24⟩ hX hT rfl (fun z hz => by cases hz) (by decide) (by decide) q_1242 (va_Nw.use rfl hX.2.2.2.2.2.2.2.2.1.2.2.2.2.2.1) rfl (fun q9 => ?_)
      refine g_astoreS_n 13 3 [(3, .retAddr q9), (0, .ref a0), (1, .int x1), (2, .ref a2)] hX dL_restore_12 rfl rfl (Nat.le_of_ble_eq_true rfl) rfl ?_
      refine g_iconst 14 hX 1 dL_restore_13 rfl kc_i_1 ?_
      exact g_iret (b0 := ((1, M2) : Int32 × kMem)) hX hr rfl (Nat.le_refl _) (Nat.le_refl _) dL_restore_14
    refine g_xif 3 (fun hx => ?_) ?_
    · subst hx
      refine g_catch (x := 3) [⟨0, 9, 12, 24⟩] [] ⟨0, 9, 15, 13⟩ hX hT rfl (fun z hz => by cases List.mem_singleton.mp hz; exact Or.inr ⟨by decide, "java/lang/IndexOutOfBoundsException", q_1242, hN.2.1⟩) (by decide) (by decide) q_1133 (va_Nw.use rfl hX.2.2.2.2.2.2.2.2.1.2.2.2.2.2.2.2) rfl (fun q9 => ?_)
      refine g_astoreS_n 16 3 [(3, .retAddr q9), (0, .ref a0), (1, .int x1), (2, .ref a2)] hX dL_restore_15 rfl rfl (Nat.le_of_ble_eq_true rfl) rfl ?_
      refine g_iconst 17 hX 2 dL_restore_16 rfl kc_i_2 ?_
      exact g_iret (b0 := ((2, M2) : Int32 × kMem)) hX hr rfl (Nat.le_refl _) (Nat.le_refl _) dL_restore_17
    exact g_xnone
