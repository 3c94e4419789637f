/-! The law, case by case -/
section LCS1
variable {g : jG} {hs : jH} {H : jH} {o L j : Nat} {xs : Nat → Int32} {ω : CW} {μ : MW}
theorem cs_16 (hN : jnc g) (hL : L ≤ 3072) (hj : 6 * j + 6 ≤ L) (I : LI g L xs o j H ω μ) (K : ∀ H' ω' ν, LNx g L xs o (j + 1) H' ω' ν → J g mL_law 121 hs PL 2959 (lvL g o (nI (6 * j))) [] (lh g H' o ω' ν)) : J g mL_law 121 hs PL 1156 (lvL g o (nI (6 * j))) [] (lh g H o ω μ) := by
  refine jr_aload_n 3 dL_law_1156 rfl rfl ?_
  refine js_ld (c := 1) 4 0 rfl (by omega) hL I.1.sc dL_law_1157 dL_law_1158 dL_law_1160 dL_law_1161 dL_law_1162 rfl rfl ?_
  refine js_ld (c := 2) 4 0 rfl (by omega) hL I.1.sc dL_law_1163 dL_law_1164 dL_law_1166 dL_law_1167 dL_law_1168 rfl rfl ?_
  refine jr_aload_n 1 dL_law_1169 rfl rfl ?_
  refine jr_cXi (As := [.ref o, .int (xs (6 * j + 1)), .int (xs (6 * j + 2)), .ref (o + 414)]) (st := []) jl_L_209 km_L_year rfl rfl dL_law_1170 (Nat.le_of_ble_eq_true rfl) (Con.nx (cc_year hN I)) (fun k h' hk => ?_)
  obtain ⟨A, ω', ⟨rfl, rfl⟩, ek, H1, ω1, s, X, B, rfl, D⟩ := hk
  refine jr_istore (lv' := (5, .int k) :: lvL g o (nI (6 * j))) dL_law_1173 (by decide) rfl ?_
  refine jr_aload_n 3 dL_law_1175 rfl rfl ?_
  refine js_ld (c := 1) 5 1 rfl (by omega) hL B.sc dL_law_1176 dL_law_1177 dL_law_1179 dL_law_1180 dL_law_1181 rfl rfl ?_
  refine js_ld (c := 2) 5 1 rfl (by omega) hL B.sc dL_law_1182 dL_law_1183 dL_law_1185 dL_law_1186 dL_law_1187 rfl rfl ?_
  refine jr_cVi (As := [.int (xs (6 * j + 1)), .int (xs (6 * j + 2))]) (st := []) jl_L_211 km_X12_year rfl rfl dL_law_1188 lh_mo (Nat.le_of_ble_eq_true rfl) (mc_i (fun h => v_year (d := 80) I.2.1)) (fun r h' hr => ?_)
  obtain ⟨ν, q, rfl⟩ := hr
  obtain ⟨e1, e2⟩ := fi_a (by decide) ek q D
  exact js_endI e1 e2 jl_L_158 dL_law_1191 dL_law_1193 dL_law_1194 dL_law_1197 dL_law_1199 dL_law_1204 dL_law_1206 dL_law_1209 dL_law_1210 dL_law_1211 dL_law_1212 dL_law_1214 dL_law_1215 dL_law_1216 dL_law_1221 (by decide) (K _ _ _ (I.nextk kx_year X B s q.2.2))
theorem cs_17 (hN : jnc g) (hL : L ≤ 3072) (hj : 6 * j + 6 ≤ L) (I : LI g L xs o j H ω μ) (K : ∀ H' ω' ν, LNx g L xs o (j + 1) H' ω' ν → J g mL_law 121 hs PL 2959 (lvL g o (nI (6 * j))) [] (lh g H' o ω' ν)) : J g mL_law 121 hs PL 1224 (lvL g o (nI (6 * j))) [] (lh g H o ω μ) := by
  refine jr_aload_n 3 dL_law_1224 rfl rfl ?_
  refine js_ld (c := 1) 4 0 rfl (by omega) hL I.1.sc dL_law_1225 dL_law_1226 dL_law_1228 dL_law_1229 dL_law_1230 rfl rfl ?_
  refine js_ld (c := 2) 4 0 rfl (by omega) hL I.1.sc dL_law_1231 dL_law_1232 dL_law_1234 dL_law_1235 dL_law_1236 rfl rfl ?_
  refine jr_aload_n 1 dL_law_1237 rfl rfl ?_
  refine jr_cXi (As := [.ref o, .int (xs (6 * j + 1)), .int (xs (6 * j + 2)), .ref (o + 414)]) (st := []) jl_L_212 km_L_debtIn rfl rfl dL_law_1238 (Nat.le_of_ble_eq_true rfl) (Con.nx (cc_debtIn hN I)) (fun k h' hk => ?_)
  obtain ⟨A, ω', ⟨rfl, rfl⟩, ek, H1, ω1, s, X, B, rfl, D⟩ := hk
  refine jr_istore (lv' := (5, .int k) :: lvL g o (nI (6 * j))) dL_law_1241 (by decide) rfl ?_
  refine jr_aload_n 3 dL_law_1243 rfl rfl ?_
  refine js_ld (c := 1) 5 1 rfl (by omega) hL B.sc dL_law_1244 dL_law_1245 dL_law_1247 dL_law_1248 dL_law_1249 rfl rfl ?_
  refine js_ld (c := 2) 5 1 rfl (by omega) hL B.sc dL_law_1250 dL_law_1251 dL_law_1253 dL_law_1254 dL_law_1255 rfl rfl ?_
  refine jr_cVi (As := [.int (xs (6 * j + 1)), .int (xs (6 * j + 2))]) (st := []) jl_L_214 km_X12_debtIn rfl rfl dL_law_1256 lh_mo (Nat.le_of_ble_eq_true rfl) (mc_i (fun h => v_debtIn (d := 80) I.2.1)) (fun r h' hr => ?_)
  obtain ⟨ν, q, rfl⟩ := hr
  obtain ⟨e1, e2⟩ := fi_a (by decide) ek q D
  exact js_endI e1 e2 jl_L_158 dL_law_1259 dL_law_1261 dL_law_1262 dL_law_1265 dL_law_1267 dL_law_1272 dL_law_1274 dL_law_1277 dL_law_1278 dL_law_1279 dL_law_1280 dL_law_1282 dL_law_1283 dL_law_1284 dL_law_1289 (by decide) (K _ _ _ (I.nextk kpx.rf X B s q.2.2))
theorem cs_18 (hN : jnc g) (hL : L ≤ 3072) (hj : 6 * j + 6 ≤ L) (I : LI g L xs o j H ω μ) (K : ∀ H' ω' ν, LNx g L xs o (j + 1) H' ω' ν → J g mL_law 121 hs PL 2959 (lvL g o (nI (6 * j))) [] (lh g H' o ω' ν)) : J g mL_law 121 hs PL 1292 (lvL g o (nI (6 * j))) [] (lh g H o ω μ) := by
  refine jr_aload_n 3 dL_law_1292 rfl rfl ?_
  refine js_ld (c := 1) 4 0 rfl (by omega) hL I.1.sc dL_law_1293 dL_law_1294 dL_law_1296 dL_law_1297 dL_law_1298 rfl rfl ?_
  refine js_ld (c := 2) 4 0 rfl (by omega) hL I.1.sc dL_law_1299 dL_law_1300 dL_law_1302 dL_law_1303 dL_law_1304 rfl rfl ?_
  refine jr_aload_n 1 dL_law_1305 rfl rfl ?_
  refine jr_cXi (As := [.ref o, .int (xs (6 * j + 1)), .int (xs (6 * j + 2)), .ref (o + 414)]) (st := []) jl_L_215 km_L_cashIn rfl rfl dL_law_1306 (Nat.le_of_ble_eq_true rfl) (Con.nx (cc_cashIn hN I)) (fun k h' hk => ?_)
  obtain ⟨A, ω', ⟨rfl, rfl⟩, ek, H1, ω1, s, X, B, rfl, D⟩ := hk
  refine jr_istore (lv' := (5, .int k) :: lvL g o (nI (6 * j))) dL_law_1309 (by decide) rfl ?_
  refine jr_aload_n 3 dL_law_1311 rfl rfl ?_
  refine js_ld (c := 1) 5 1 rfl (by omega) hL B.sc dL_law_1312 dL_law_1313 dL_law_1315 dL_law_1316 dL_law_1317 rfl rfl ?_
  refine js_ld (c := 2) 5 1 rfl (by omega) hL B.sc dL_law_1318 dL_law_1319 dL_law_1321 dL_law_1322 dL_law_1323 rfl rfl ?_
  refine jr_cVi (As := [.int (xs (6 * j + 1)), .int (xs (6 * j + 2))]) (st := []) jl_L_217 km_X12_cashIn rfl rfl dL_law_1324 lh_mo (Nat.le_of_ble_eq_true rfl) (mc_i (fun h => v_cashIn (d := 80) I.2.1)) (fun r h' hr => ?_)
  obtain ⟨ν, q, rfl⟩ := hr
  obtain ⟨e1, e2⟩ := fi_a (by decide) ek q D
  exact js_endI e1 e2 jl_L_158 dL_law_1327 dL_law_1329 dL_law_1330 dL_law_1333 dL_law_1335 dL_law_1340 dL_law_1342 dL_law_1345 dL_law_1346 dL_law_1347 dL_law_1348 dL_law_1350 dL_law_1351 dL_law_1352 dL_law_1357 (by decide) (K _ _ _ (I.nextk kpx.rf X B s q.2.2))
theorem cs_19 (hN : jnc g) (hL : L ≤ 3072) (hj : 6 * j + 6 ≤ L) (I : LI g L xs o j H ω μ) (K : ∀ H' ω' ν, LNx g L xs o (j + 1) H' ω' ν → J g mL_law 121 hs PL 2959 (lvL g o (nI (6 * j))) [] (lh g H' o ω' ν)) : J g mL_law 121 hs PL 1360 (lvL g o (nI (6 * j))) [] (lh g H o ω μ) := by
  refine jr_aload_n 3 dL_law_1360 rfl rfl ?_
  refine js_ld (c := 1) 4 0 rfl (by omega) hL I.1.sc dL_law_1361 dL_law_1362 dL_law_1364 dL_law_1365 dL_law_1366 rfl rfl ?_
  refine jr_aload_n 1 dL_law_1367 rfl rfl ?_
  refine jr_cXi (As := [.ref o, .int (xs (6 * j + 1)), .ref (o + 414)]) (st := []) jl_L_218 km_L_ruinIn rfl rfl dL_law_1368 (Nat.le_of_ble_eq_true rfl) (Con.nx (cc_ruinIn hN I)) (fun k h' hk => ?_)
  obtain ⟨A, ω', ⟨rfl, rfl⟩, ek, H1, ω1, s, X, B, rfl, D⟩ := hk
  refine jr_istore (lv' := (5, .int k) :: lvL g o (nI (6 * j))) dL_law_1371 (by decide) rfl ?_
  refine jr_aload_n 3 dL_law_1373 rfl rfl ?_
  refine js_ld (c := 1) 5 1 rfl (by omega) hL B.sc dL_law_1374 dL_law_1375 dL_law_1377 dL_law_1378 dL_law_1379 rfl rfl ?_
  refine jr_cVi (As := [.int (xs (6 * j + 1))]) (st := []) jl_L_220 km_X12_ruinIn rfl rfl dL_law_1380 lh_mo (Nat.le_of_ble_eq_true rfl) (mc_i (fun h => v_ruinIn (d := 80) I.2.1)) (fun r h' hr => ?_)
  obtain ⟨ν, q, rfl⟩ := hr
  obtain ⟨e1, e2⟩ := fi_a (by decide) ek q D
  exact js_endI e1 e2 jl_L_158 dL_law_1383 dL_law_1385 dL_law_1386 dL_law_1389 dL_law_1391 dL_law_1396 dL_law_1398 dL_law_1401 dL_law_1402 dL_law_1403 dL_law_1404 dL_law_1406 dL_law_1407 dL_law_1408 dL_law_1413 (by decide) (K _ _ _ (I.nextk kpx.rf X B s q.2.2))
theorem cs_20 (hN : jnc g) (hL : L ≤ 3072) (hj : 6 * j + 6 ≤ L) (I : LI g L xs o j H ω μ) (K : ∀ H' ω' ν, LNx g L xs o (j + 1) H' ω' ν → J g mL_law 121 hs PL 2959 (lvL g o (nI (6 * j))) [] (lh g H' o ω' ν)) : J g mL_law 121 hs PL 1416 (lvL g o (nI (6 * j))) [] (lh g H o ω μ) := by
  refine jr_aload_n 3 dL_law_1416 rfl rfl ?_
  refine js_ld (c := 1) 4 0 rfl (by omega) hL I.1.sc dL_law_1417 dL_law_1418 dL_law_1420 dL_law_1421 dL_law_1422 rfl rfl ?_
  refine jr_aload_n 1 dL_law_1423 rfl rfl ?_
  refine jr_cXi (As := [.ref o, .int (xs (6 * j + 1)), .ref (o + 414)]) (st := []) jl_L_221 km_L_lost rfl rfl dL_law_1424 (Nat.le_of_ble_eq_true rfl) (Con.nx (cc_lost hN I)) (fun k h' hk => ?_)
  obtain ⟨A, ω', ⟨rfl, rfl⟩, ek, H1, ω1, s, X, B, rfl, D⟩ := hk
  refine jr_istore (lv' := (5, .int k) :: lvL g o (nI (6 * j))) dL_law_1427 (by decide) rfl ?_
  refine jr_aload_n 3 dL_law_1429 rfl rfl ?_
  refine js_ld (c := 1) 5 1 rfl (by omega) hL B.sc dL_law_1430 dL_law_1431 dL_law_1433 dL_law_1434 dL_law_1435 rfl rfl ?_
  refine jr_cVi (As := [.int (xs (6 * j + 1))]) (st := []) jl_L_223 km_X12_lost rfl rfl dL_law_1436 lh_mo (Nat.le_of_ble_eq_true rfl) (mc_i (fun h => v_lost (d := 80) I.2.1)) (fun r h' hr => ?_)
  obtain ⟨ν, q, rfl⟩ := hr
  obtain ⟨e1, e2⟩ := fi_a (by decide) ek q D
  exact js_endI e1 e2 jl_L_158 dL_law_1439 dL_law_1441 dL_law_1442 dL_law_1445 dL_law_1447 dL_law_1452 dL_law_1454 dL_law_1457 dL_law_1458 dL_law_1459 dL_law_1460 dL_law_1462 dL_law_1463 dL_law_1464 dL_law_1469 (by decide) (K _ _ _ (I.nextk kpx.rf X B s q.2.2))
theorem cs_21 (hN : jnc g) (hL : L ≤ 3072) (hj : 6 * j + 6 ≤ L) (I : LI g L xs o j H ω μ) (K : ∀ H' ω' ν, LNx g L xs o (j + 1) H' ω' ν → J g mL_law 121 hs PL 2959 (lvL g o (nI (6 * j))) [] (lh g H' o ω' ν)) : J g mL_law 121 hs PL 1472 (lvL g o (nI (6 * j))) [] (lh g H o ω μ) := by
  refine jr_aload_n 3 dL_law_1472 rfl rfl ?_
  refine jr_cVi (As := []) (st := []) jl_L_224 km_X11_clear rfl rfl dL_law_1473 lh_co (Nat.le_of_ble_eq_true rfl) (Con.nx (cc_clear I)) (fun k h' hk => ?_)
  obtain ⟨ek, ω1, s, rfl⟩ := hk
  refine jr_aload_n 2 dL_law_1476 rfl rfl ?_
  refine jr_cVi (As := []) (st := [.int k]) jl_L_227 km_X12_clear rfl rfl dL_law_1477 lh_mo (Nat.le_of_ble_eq_true rfl) (mc_i (fun h => v_clear (d := 80) I.2.1)) (fun r h' hr => ?_)
  obtain ⟨ν, q, rfl⟩ := hr
  exact jr_icmp_eq (tgt := 2959) dL_law_1480 (by decide) (fun _ => K _ _ _ (I.nextk kpx.rf HXt.rf I.1 s q.2.2)) (fun c => absurd (q.2.1 _ ek).symm c)
theorem cs_22 (hN : jnc g) (hL : L ≤ 3072) (hj : 6 * j + 6 ≤ L) (I : LI g L xs o j H ω μ) (K : ∀ H' ω' ν, LNx g L xs o (j + 1) H' ω' ν → J g mL_law 121 hs PL 2959 (lvL g o (nI (6 * j))) [] (lh g H' o ω' ν)) : J g mL_law 121 hs PL 1485 (lvL g o (nI (6 * j))) [] (lh g H o ω μ) := by
  refine jr_aload_n 3 dL_law_1485 rfl rfl ?_
  refine js_ld (c := 1) 4 0 rfl (by omega) hL I.1.sc dL_law_1486 dL_law_1487 dL_law_1489 dL_law_1490 dL_law_1491 rfl rfl ?_
  refine jr_aload_n 1 dL_law_1492 rfl rfl ?_
  refine jr_cXi (As := [.ref o, .int (xs (6 * j + 1)), .ref (o + 414)]) (st := []) jl_L_228 km_L_seaIn rfl rfl dL_law_1493 (Nat.le_of_ble_eq_true rfl) (Con.nx (cc_seaIn hN I)) (fun k h' hk => ?_)
  obtain ⟨A, ω', ⟨rfl, rfl⟩, ek, H1, ω1, s, X, B, rfl, D⟩ := hk
  refine jr_istore (lv' := (5, .int k) :: lvL g o (nI (6 * j))) dL_law_1496 (by decide) rfl ?_
  refine jr_aload_n 3 dL_law_1498 rfl rfl ?_
  refine js_ld (c := 1) 5 1 rfl (by omega) hL B.sc dL_law_1499 dL_law_1500 dL_law_1502 dL_law_1503 dL_law_1504 rfl rfl ?_
  refine jr_cVi (As := [.int (xs (6 * j + 1))]) (st := []) jl_L_230 km_X12_seaIn rfl rfl dL_law_1505 lh_mo (Nat.le_of_ble_eq_true rfl) (mc_i (fun h => v_seaIn (d := 80) I.2.1)) (fun r h' hr => ?_)
  obtain ⟨ν, q, rfl⟩ := hr
  obtain ⟨e1, e2⟩ := fi_a (by decide) ek q D
  exact js_endI e1 e2 jl_L_158 dL_law_1508 dL_law_1510 dL_law_1511 dL_law_1514 dL_law_1516 dL_law_1521 dL_law_1523 dL_law_1526 dL_law_1527 dL_law_1528 dL_law_1529 dL_law_1531 dL_law_1532 dL_law_1533 dL_law_1538 (by decide) (K _ _ _ (I.nextk kpx.rf X B s q.2.2))
theorem cs_23 (hN : jnc g) (hL : L ≤ 3072) (hj : 6 * j + 6 ≤ L) (I : LI g L xs o j H ω μ) (K : ∀ H' ω' ν, LNx g L xs o (j + 1) H' ω' ν → J g mL_law 121 hs PL 2959 (lvL g o (nI (6 * j))) [] (lh g H' o ω' ν)) : J g mL_law 121 hs PL 1541 (lvL g o (nI (6 * j))) [] (lh g H o ω μ) := by
  refine jr_aload_n 3 dL_law_1541 rfl rfl ?_
  refine js_ld (c := 1) 4 0 rfl (by omega) hL I.1.sc dL_law_1542 dL_law_1543 dL_law_1545 dL_law_1546 dL_law_1547 rfl rfl ?_
  refine js_ld (c := 2) 4 0 rfl (by omega) hL I.1.sc dL_law_1548 dL_law_1549 dL_law_1551 dL_law_1552 dL_law_1553 rfl rfl ?_
  refine jr_aload_n 1 dL_law_1554 rfl rfl ?_
  refine jr_cXi (As := [.ref o, .int (xs (6 * j + 1)), .int (xs (6 * j + 2)), .ref (o + 414)]) (st := []) jl_L_231 km_L_burden rfl rfl dL_law_1555 (Nat.le_of_ble_eq_true rfl) (Con.nx (cc_burden hN I)) (fun k h' hk => ?_)
  obtain ⟨A, ω', ⟨rfl, rfl⟩, ek, H1, ω1, s, X, B, rfl, D⟩ := hk
  refine jr_istore (lv' := (5, .int k) :: lvL g o (nI (6 * j))) dL_law_1558 (by decide) rfl ?_
  refine jr_aload_n 3 dL_law_1560 rfl rfl ?_
  refine js_ld (c := 1) 5 1 rfl (by omega) hL B.sc dL_law_1561 dL_law_1562 dL_law_1564 dL_law_1565 dL_law_1566 rfl rfl ?_
  refine js_ld (c := 2) 5 1 rfl (by omega) hL B.sc dL_law_1567 dL_law_1568 dL_law_1570 dL_law_1571 dL_law_1572 rfl rfl ?_
  refine jr_cVl (As := [.int (xs (6 * j + 1)), .int (xs (6 * j + 2))]) (st := []) jl_L_233 km_X12_burden rfl rfl dL_law_1573 lh_mo (Nat.le_of_ble_eq_true rfl) (mc_l (fun h => v_burden (d := 80) I.2.1)) (fun r h' hr => ?_)
  obtain ⟨ν, q, rfl⟩ := hr
  obtain ⟨e1, e2⟩ := fi_a (by decide) ek q D
  exact js_endL e1 e2 jl_L_158 dL_law_1576 dL_law_1578 dL_law_1579 dL_law_1582 dL_law_1584 dL_law_1589 dL_law_1591 dL_law_1594 dL_law_1595 dL_law_1596 dL_law_1597 dL_law_1599 dL_law_1600 dL_law_1605 (by decide) (K _ _ _ (I.nextk kpx.rf X B s q.2.2))
theorem cs_24 (hN : jnc g) (hL : L ≤ 3072) (hj : 6 * j + 6 ≤ L) (I : LI g L xs o j H ω μ) (K : ∀ H' ω' ν, LNx g L xs o (j + 1) H' ω' ν → J g mL_law 121 hs PL 2959 (lvL g o (nI (6 * j))) [] (lh g H' o ω' ν)) : J g mL_law 121 hs PL 1608 (lvL g o (nI (6 * j))) [] (lh g H o ω μ) := by
  refine jr_aload_n 3 dL_law_1608 rfl rfl ?_
  refine js_ld (c := 1) 4 0 rfl (by omega) hL I.1.sc dL_law_1609 dL_law_1610 dL_law_1612 dL_law_1613 dL_law_1614 rfl rfl ?_
  refine jr_aload_n 1 dL_law_1615 rfl rfl ?_
  refine jr_cXi (As := [.ref o, .int (xs (6 * j + 1)), .ref (o + 414)]) (st := []) jl_L_234 km_L_heaviest rfl rfl dL_law_1616 (Nat.le_of_ble_eq_true rfl) (Con.nx (cc_heaviest hN I)) (fun k h' hk => ?_)
  obtain ⟨A, ω', ⟨rfl, rfl⟩, ek, H1, ω1, s, X, B, rfl, D⟩ := hk
  refine jr_istore (lv' := (5, .int k) :: lvL g o (nI (6 * j))) dL_law_1619 (by decide) rfl ?_
  refine jr_aload_n 3 dL_law_1621 rfl rfl ?_
  refine js_ld (c := 1) 5 1 rfl (by omega) hL B.sc dL_law_1622 dL_law_1623 dL_law_1625 dL_law_1626 dL_law_1627 rfl rfl ?_
  refine jr_cVi (As := [.int (xs (6 * j + 1))]) (st := []) jl_L_236 km_X12_heaviest rfl rfl dL_law_1628 lh_mo (Nat.le_of_ble_eq_true rfl) (mc_i (fun h => v_heaviest (d := 80) I.2.1)) (fun r h' hr => ?_)
  obtain ⟨ν, q, rfl⟩ := hr
  obtain ⟨e1, e2⟩ := fi_a (by decide) ek q D
  exact js_endI e1 e2 jl_L_158 dL_law_1631 dL_law_1633 dL_law_1634 dL_law_1637 dL_law_1639 dL_law_1644 dL_law_1646 dL_law_1649 dL_law_1650 dL_law_1651 dL_law_1652 dL_law_1654 dL_law_1655 dL_law_1656 dL_law_1661 (by decide) (K _ _ _ (I.nextk kpx.rf X B s q.2.2))
theorem cs_25 (hN : jnc g) (hL : L ≤ 3072) (hj : 6 * j + 6 ≤ L) (I : LI g L xs o j H ω μ) (K : ∀ H' ω' ν, LNx g L xs o (j + 1) H' ω' ν → J g mL_law 121 hs PL 2959 (lvL g o (nI (6 * j))) [] (lh g H' o ω' ν)) : J g mL_law 121 hs PL 1664 (lvL g o (nI (6 * j))) [] (lh g H o ω μ) := by
  refine jr_aload_n 3 dL_law_1664 rfl rfl ?_
  refine js_ld (c := 1) 4 0 rfl (by omega) hL I.1.sc dL_law_1665 dL_law_1666 dL_law_1668 dL_law_1669 dL_law_1670 rfl rfl ?_
  refine jr_aload_n 1 dL_law_1671 rfl rfl ?_
  refine jr_cXi (As := [.ref o, .int (xs (6 * j + 1)), .ref (o + 414)]) (st := []) jl_L_237 km_L_paid rfl rfl dL_law_1672 (Nat.le_of_ble_eq_true rfl) (Con.nx (cc_paid hN I)) (fun k h' hk => ?_)
  obtain ⟨A, ω', ⟨rfl, rfl⟩, ek, H1, ω1, s, X, B, rfl, D⟩ := hk
  refine jr_istore (lv' := (5, .int k) :: lvL g o (nI (6 * j))) dL_law_1675 (by decide) rfl ?_
  refine jr_aload_n 3 dL_law_1677 rfl rfl ?_
  refine js_ld (c := 1) 5 1 rfl (by omega) hL B.sc dL_law_1678 dL_law_1679 dL_law_1681 dL_law_1682 dL_law_1683 rfl rfl ?_
  refine jr_cVl (As := [.int (xs (6 * j + 1))]) (st := []) jl_L_239 km_X12_paid rfl rfl dL_law_1684 lh_mo (Nat.le_of_ble_eq_true rfl) (mc_l (fun h => v_paid (d := 80) I.2.1)) (fun r h' hr => ?_)
  obtain ⟨ν, q, rfl⟩ := hr
  obtain ⟨e1, e2⟩ := fi_a (by decide) ek q D
  exact js_endL e1 e2 jl_L_158 dL_law_1687 dL_law_1689 dL_law_1690 dL_law_1693 dL_law_1695 dL_law_1700 dL_law_1702 dL_law_1705 dL_law_1706 dL_law_1707 dL_law_1708 dL_law_1710 dL_law_1711 dL_law_1716 (by decide) (K _ _ _ (I.nextk kpx.rf X B s q.2.2))
theorem cs_26 (hN : jnc g) (hL : L ≤ 3072) (hj : 6 * j + 6 ≤ L) (I : LI g L xs o j H ω μ) (K : ∀ H' ω' ν, LNx g L xs o (j + 1) H' ω' ν → J g mL_law 121 hs PL 2959 (lvL g o (nI (6 * j))) [] (lh g H' o ω' ν)) : J g mL_law 121 hs PL 1719 (lvL g o (nI (6 * j))) [] (lh g H o ω μ) := by
  refine jr_aload_n 3 dL_law_1719 rfl rfl ?_
  refine js_ld (c := 1) 4 0 rfl (by omega) hL I.1.sc dL_law_1720 dL_law_1721 dL_law_1723 dL_law_1724 dL_law_1725 rfl rfl ?_
  refine js_ld (c := 2) 4 0 rfl (by omega) hL I.1.sc dL_law_1726 dL_law_1727 dL_law_1729 dL_law_1730 dL_law_1731 rfl rfl ?_
  refine jr_aload_n 1 dL_law_1732 rfl rfl ?_
  refine jr_cXi (As := [.ref o, .int (xs (6 * j + 1)), .int (xs (6 * j + 2)), .ref (o + 414)]) (st := []) jl_L_240 km_L_order rfl rfl dL_law_1733 (Nat.le_of_ble_eq_true rfl) (Con.nx (cc_order hN I)) (fun k h' hk => ?_)
  obtain ⟨A, ω', hz, ek, H1, ω1, s, X, B, rfl, D⟩ := hk
  refine jr_istore (lv' := (5, .int k) :: lvL g o (nI (6 * j))) dL_law_1736 (by decide) rfl ?_
  refine jr_aload_n 3 dL_law_1738 rfl rfl ?_
  refine js_ld (c := 1) 5 1 rfl (by omega) hL B.sc dL_law_1739 dL_law_1740 dL_law_1742 dL_law_1743 dL_law_1744 rfl rfl ?_
  refine js_ld (c := 2) 5 1 rfl (by omega) hL B.sc dL_law_1745 dL_law_1746 dL_law_1748 dL_law_1749 dL_law_1750 rfl rfl ?_
  refine jr_cVi (As := [.int (xs (6 * j + 1)), .int (xs (6 * j + 2))]) (st := []) jl_L_242 km_X12_order rfl rfl dL_law_1751 lh_mo (Nat.le_of_ble_eq_true rfl) (mc_i (fun h => v_order (d := 80) I.2.1)) (fun r h' hr => ?_)
  obtain ⟨ν, q, rfl⟩ := hr
  obtain ⟨q', k1, k2⟩ := ag_order I.2.2.1.1 hz q
  obtain ⟨e1, e2⟩ := fi_a (by decide) ek q' D
  exact js_endI e1 e2 jl_L_158 dL_law_1754 dL_law_1756 dL_law_1757 dL_law_1760 dL_law_1762 dL_law_1767 dL_law_1769 dL_law_1772 dL_law_1773 dL_law_1774 dL_law_1775 dL_law_1777 dL_law_1778 dL_law_1779 dL_law_1784 (by decide) (K _ _ _ (I.next k1 k2 X B s q'.2.2))
theorem cs_27 (hN : jnc g) (hL : L ≤ 3072) (hj : 6 * j + 6 ≤ L) (I : LI g L xs o j H ω μ) (K : ∀ H' ω' ν, LNx g L xs o (j + 1) H' ω' ν → J g mL_law 121 hs PL 2959 (lvL g o (nI (6 * j))) [] (lh g H' o ω' ν)) : J g mL_law 121 hs PL 1787 (lvL g o (nI (6 * j))) [] (lh g H o ω μ) := by
  refine jr_aload_n 3 dL_law_1787 rfl rfl ?_
  refine js_ld (c := 1) 4 0 rfl (by omega) hL I.1.sc dL_law_1788 dL_law_1789 dL_law_1791 dL_law_1792 dL_law_1793 rfl rfl ?_
  refine jr_aload_n 1 dL_law_1794 rfl rfl ?_
  refine jr_cXi (As := [.ref o, .int (xs (6 * j + 1)), .ref (o + 414)]) (st := []) jl_L_243 km_L_orders rfl rfl dL_law_1795 (Nat.le_of_ble_eq_true rfl) (Con.nx (cc_orders hN I)) (fun k h' hk => ?_)
  obtain ⟨A, ω', hz, ek, H1, ω1, s, X, B, rfl, D⟩ := hk
  refine jr_istore (lv' := (5, .int k) :: lvL g o (nI (6 * j))) dL_law_1798 (by decide) rfl ?_
  refine jr_aload_n 3 dL_law_1800 rfl rfl ?_
  refine js_ld (c := 1) 5 1 rfl (by omega) hL B.sc dL_law_1801 dL_law_1802 dL_law_1804 dL_law_1805 dL_law_1806 rfl rfl ?_
  refine jr_cVi (As := [.int (xs (6 * j + 1))]) (st := []) jl_L_245 km_X12_orders rfl rfl dL_law_1807 lh_mo (Nat.le_of_ble_eq_true rfl) (mc_i (fun h => v_orders (d := 80) I.2.1)) (fun r h' hr => ?_)
  obtain ⟨ν, q, rfl⟩ := hr
  obtain ⟨q', k1, k2⟩ := ag_orders I.2.2.1.1 hz q
  obtain ⟨e1, e2⟩ := fi_a (by decide) ek q' D
  exact js_endI e1 e2 jl_L_158 dL_law_1810 dL_law_1812 dL_law_1813 dL_law_1816 dL_law_1818 dL_law_1823 dL_law_1825 dL_law_1828 dL_law_1829 dL_law_1830 dL_law_1831 dL_law_1833 dL_law_1834 dL_law_1835 dL_law_1840 (by decide) (K _ _ _ (I.next k1 k2 X B s q'.2.2))
theorem cs_28 (hN : jnc g) (hL : L ≤ 3072) (hj : 6 * j + 6 ≤ L) (I : LI g L xs o j H ω μ) (K : ∀ H' ω' ν, LNx g L xs o (j + 1) H' ω' ν → J g mL_law 121 hs PL 2959 (lvL g o (nI (6 * j))) [] (lh g H' o ω' ν)) : J g mL_law 121 hs PL 1843 (lvL g o (nI (6 * j))) [] (lh g H o ω μ) := by
  refine jr_aload_n 3 dL_law_1843 rfl rfl ?_
  refine js_ld (c := 1) 4 0 rfl (by omega) hL I.1.sc dL_law_1844 dL_law_1845 dL_law_1847 dL_law_1848 dL_law_1849 rfl rfl ?_
  refine jr_aload_n 1 dL_law_1850 rfl rfl ?_
  refine jr_cXi (As := [.ref o, .int (xs (6 * j + 1)), .ref (o + 414)]) (st := []) jl_L_246 km_L_bestSwap rfl rfl dL_law_1851 (Nat.le_of_ble_eq_true rfl) (Con.nx (cc_bestSwap hN I)) (fun k h' hk => ?_)
  obtain ⟨A, ω', ⟨rfl, rfl⟩, ek, H1, ω1, s, X, B, rfl, D⟩ := hk
  refine jr_istore (lv' := (5, .int k) :: lvL g o (nI (6 * j))) dL_law_1854 (by decide) rfl ?_
  refine jr_aload_n 3 dL_law_1856 rfl rfl ?_
  refine js_ld (c := 1) 5 1 rfl (by omega) hL B.sc dL_law_1857 dL_law_1858 dL_law_1860 dL_law_1861 dL_law_1862 rfl rfl ?_
  refine jr_cVi (As := [.int (xs (6 * j + 1))]) (st := []) jl_L_248 km_X12_bestSwap rfl rfl dL_law_1863 lh_mo (Nat.le_of_ble_eq_true rfl) (mc_i (fun h => v_bestSwap (d := 80) I.2.1)) (fun r h' hr => ?_)
  obtain ⟨ν, q, rfl⟩ := hr
  obtain ⟨e1, e2⟩ := fi_a (by decide) ek q D
  exact js_endI e1 e2 jl_L_158 dL_law_1866 dL_law_1868 dL_law_1869 dL_law_1872 dL_law_1874 dL_law_1879 dL_law_1881 dL_law_1884 dL_law_1885 dL_law_1886 dL_law_1887 dL_law_1889 dL_law_1890 dL_law_1891 dL_law_1896 (by decide) (K _ _ _ (I.nextk kpx.rf X B s q.2.2))
theorem cs_29 (hN : jnc g) (hL : L ≤ 3072) (hj : 6 * j + 6 ≤ L) (I : LI g L xs o j H ω μ) (K : ∀ H' ω' ν, LNx g L xs o (j + 1) H' ω' ν → J g mL_law 121 hs PL 2959 (lvL g o (nI (6 * j))) [] (lh g H' o ω' ν)) : J g mL_law 121 hs PL 1899 (lvL g o (nI (6 * j))) [] (lh g H o ω μ) := by
  refine jr_aload_n 3 dL_law_1899 rfl rfl ?_
  refine js_ld (c := 1) 4 0 rfl (by omega) hL I.1.sc dL_law_1900 dL_law_1901 dL_law_1903 dL_law_1904 dL_law_1905 rfl rfl ?_
  refine jr_aload_n 1 dL_law_1906 rfl rfl ?_
  refine jr_cXi (As := [.ref o, .int (xs (6 * j + 1)), .ref (o + 414)]) (st := []) jl_L_249 km_L_wouldSwap rfl rfl dL_law_1907 (Nat.le_of_ble_eq_true rfl) (Con.nx (cc_wouldSwap hN I)) (fun k h' hk => ?_)
  obtain ⟨A, ω', ⟨rfl, rfl⟩, ek, H1, ω1, s, X, B, rfl, D⟩ := hk
  refine jr_istore (lv' := (5, .int k) :: lvL g o (nI (6 * j))) dL_law_1910 (by decide) rfl ?_
  refine jr_aload_n 3 dL_law_1912 rfl rfl ?_
  refine js_ld (c := 1) 5 1 rfl (by omega) hL B.sc dL_law_1913 dL_law_1914 dL_law_1916 dL_law_1917 dL_law_1918 rfl rfl ?_
  refine jr_cVi (As := [.int (xs (6 * j + 1))]) (st := []) jl_L_251 km_X12_wouldSwap rfl rfl dL_law_1919 lh_mo (Nat.le_of_ble_eq_true rfl) (mc_i (fun h => v_wouldSwap (d := 80) I.2.1)) (fun r h' hr => ?_)
  obtain ⟨ν, q, rfl⟩ := hr
  obtain ⟨e1, e2⟩ := fi_a (by decide) ek q D
  exact js_endI e1 e2 jl_L_158 dL_law_1922 dL_law_1924 dL_law_1925 dL_law_1928 dL_law_1930 dL_law_1935 dL_law_1937 dL_law_1940 dL_law_1941 dL_law_1942 dL_law_1943 dL_law_1945 dL_law_1946 dL_law_1947 dL_law_1952 (by decide) (K _ _ _ (I.nextk kpx.rf X B s q.2.2))
theorem cs_30 (hN : jnc g) (hL : L ≤ 3072) (hj : 6 * j + 6 ≤ L) (I : LI g L xs o j H ω μ) (K : ∀ H' ω' ν, LNx g L xs o (j + 1) H' ω' ν → J g mL_law 121 hs PL 2959 (lvL g o (nI (6 * j))) [] (lh g H' o ω' ν)) : J g mL_law 121 hs PL 1955 (lvL g o (nI (6 * j))) [] (lh g H o ω μ) := by
  refine jr_aload_n 3 dL_law_1955 rfl rfl ?_
  refine js_ld (c := 1) 4 0 rfl (by omega) hL I.1.sc dL_law_1956 dL_law_1957 dL_law_1959 dL_law_1960 dL_law_1961 rfl rfl ?_
  refine js_ld (c := 2) 4 0 rfl (by omega) hL I.1.sc dL_law_1962 dL_law_1963 dL_law_1965 dL_law_1966 dL_law_1967 rfl rfl ?_
  refine jr_aload_n 1 dL_law_1968 rfl rfl ?_
  refine jr_cXi (As := [.ref o, .int (xs (6 * j + 1)), .int (xs (6 * j + 2)), .ref (o + 414)]) (st := []) jl_L_252 km_L_bestHouse rfl rfl dL_law_1969 (Nat.le_of_ble_eq_true rfl) (Con.nx (cc_bestHouse hN I)) (fun k h' hk => ?_)
  obtain ⟨A, ω', ⟨rfl, rfl⟩, ek, H1, ω1, s, X, B, rfl, D⟩ := hk
  refine jr_istore (lv' := (5, .int k) :: lvL g o (nI (6 * j))) dL_law_1972 (by decide) rfl ?_
  refine jr_aload_n 3 dL_law_1974 rfl rfl ?_
  refine js_ld (c := 1) 5 1 rfl (by omega) hL B.sc dL_law_1975 dL_law_1976 dL_law_1978 dL_law_1979 dL_law_1980 rfl rfl ?_
  refine js_ld (c := 2) 5 1 rfl (by omega) hL B.sc dL_law_1981 dL_law_1982 dL_law_1984 dL_law_1985 dL_law_1986 rfl rfl ?_
  refine jr_cVi (As := [.int (xs (6 * j + 1)), .int (xs (6 * j + 2))]) (st := []) jl_L_254 km_X12_bestHouse rfl rfl dL_law_1987 lh_mo (Nat.le_of_ble_eq_true rfl) (mc_i (fun h => v_bestHouse (d := 80) I.2.1)) (fun r h' hr => ?_)
  obtain ⟨ν, q, rfl⟩ := hr
  obtain ⟨e1, e2⟩ := fi_a (by decide) ek q D
  exact js_endI e1 e2 jl_L_158 dL_law_1990 dL_law_1992 dL_law_1993 dL_law_1996 dL_law_1998 dL_law_2003 dL_law_2005 dL_law_2008 dL_law_2009 dL_law_2010 dL_law_2011 dL_law_2013 dL_law_2014 dL_law_2015 dL_law_2020 (by decide) (K _ _ _ (I.nextk kpx.rf X B s q.2.2))
theorem cs_31 (hN : jnc g) (hL : L ≤ 3072) (hj : 6 * j + 6 ≤ L) (I : LI g L xs o j H ω μ) (K : ∀ H' ω' ν, LNx g L xs o (j + 1) H' ω' ν → J g mL_law 121 hs PL 2959 (lvL g o (nI (6 * j))) [] (lh g H' o ω' ν)) : J g mL_law 121 hs PL 2023 (lvL g o (nI (6 * j))) [] (lh g H o ω μ) := by
  refine jr_aload_n 3 dL_law_2023 rfl rfl ?_
  refine js_ld (c := 1) 4 0 rfl (by omega) hL I.1.sc dL_law_2024 dL_law_2025 dL_law_2027 dL_law_2028 dL_law_2029 rfl rfl ?_
  refine js_ld (c := 2) 4 0 rfl (by omega) hL I.1.sc dL_law_2030 dL_law_2031 dL_law_2033 dL_law_2034 dL_law_2035 rfl rfl ?_
  refine js_ld (c := 3) 4 0 rfl (by omega) hL I.1.sc dL_law_2036 dL_law_2037 dL_law_2039 dL_law_2040 dL_law_2041 rfl rfl ?_
  refine jr_aload_n 1 dL_law_2042 rfl rfl ?_
  refine jr_cXi (As := [.ref o, .int (xs (6 * j + 1)), .int (xs (6 * j + 2)), .int (xs (6 * j + 3)), .ref (o + 414)]) (st := []) jl_L_255 km_L_hedges rfl rfl dL_law_2043 (Nat.le_of_ble_eq_true rfl) (Con.nx (cc_hedges hN I)) (fun k h' hk => ?_)
  obtain ⟨A, ω', ⟨rfl, rfl⟩, ek, H1, ω1, s, X, B, rfl, D⟩ := hk
  refine jr_istore (lv' := (5, .int k) :: lvL g o (nI (6 * j))) dL_law_2046 (by decide) rfl ?_
  refine jr_aload_n 3 dL_law_2048 rfl rfl ?_
  refine js_ld (c := 1) 5 1 rfl (by omega) hL B.sc dL_law_2049 dL_law_2050 dL_law_2052 dL_law_2053 dL_law_2054 rfl rfl ?_
  refine js_ld (c := 2) 5 1 rfl (by omega) hL B.sc dL_law_2055 dL_law_2056 dL_law_2058 dL_law_2059 dL_law_2060 rfl rfl ?_
  refine js_ld (c := 3) 5 1 rfl (by omega) hL B.sc dL_law_2061 dL_law_2062 dL_law_2064 dL_law_2065 dL_law_2066 rfl rfl ?_
  refine jr_cVi (As := [.int (xs (6 * j + 1)), .int (xs (6 * j + 2)), .int (xs (6 * j + 3))]) (st := []) jl_L_258 km_X12_hedges rfl rfl dL_law_2067 lh_mo (Nat.le_of_ble_eq_true rfl) (mc_i (fun h => v_hedges (d := 80) I.2.1)) (fun r h' hr => ?_)
  obtain ⟨ν, q, rfl⟩ := hr
  obtain ⟨e1, e2⟩ := fi_a (by decide) ek q D
  exact js_endI e1 e2 jl_L_158 dL_law_2070 dL_law_2072 dL_law_2073 dL_law_2076 dL_law_2078 dL_law_2083 dL_law_2085 dL_law_2088 dL_law_2089 dL_law_2090 dL_law_2091 dL_law_2093 dL_law_2094 dL_law_2095 dL_law_2100 (by decide) (K _ _ _ (I.nextk kpx.rf X B s q.2.2))
end LCS1
