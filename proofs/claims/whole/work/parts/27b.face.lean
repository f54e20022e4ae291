theorem vlX10_293 : VL "LehrBelt" 293 yX9_greatestThick bX9_greatestThick 3 ((some .int)) 1 := ⟨List.mem_of_getElem? (i := 1086) (by decide +kernel), List.mem_of_getElem? (i := 1087) (by decide +kernel), List.mem_of_getElem? (i := 1088) (by decide +kernel), List.mem_of_getElem? (i := 111) (by decide +kernel), List.mem_of_getElem? (i := 1089) (by decide +kernel), by decide +kernel, by decide +kernel, by decide +kernel⟩
theorem vlX10_296 : VL "LehrBelt" 296 yX9_bestPace bX9_bestPace 5 ((some .int)) 0 := ⟨List.mem_of_getElem? (i := 1099) (by decide +kernel), List.mem_of_getElem? (i := 1100) (by decide +kernel), List.mem_of_getElem? (i := 1101) (by decide +kernel), List.mem_of_getElem? (i := 111) (by decide +kernel), List.mem_of_getElem? (i := 1102) (by decide +kernel), by decide +kernel, by decide +kernel, by decide +kernel⟩
theorem vlX10_299 : VL "LehrBelt" 299 yX9_soundByPace bX9_soundByPace 2 ((some .int)) 1 := ⟨List.mem_of_getElem? (i := 1116) (by decide +kernel), List.mem_of_getElem? (i := 1104) (by decide +kernel), List.mem_of_getElem? (i := 1105) (by decide +kernel), List.mem_of_getElem? (i := 111) (by decide +kernel), List.mem_of_getElem? (i := 1106) (by decide +kernel), by decide +kernel, by decide +kernel, by decide +kernel⟩
theorem vlX10_302 : VL "LehrBelt" 302 yX9_leastRaise bX9_leastRaise 5 ((some .int)) 3 := ⟨List.mem_of_getElem? (i := 1121) (by decide +kernel), List.mem_of_getElem? (i := 1122) (by decide +kernel), List.mem_of_getElem? (i := 1123) (by decide +kernel), List.mem_of_getElem? (i := 111) (by decide +kernel), List.mem_of_getElem? (i := 1124) (by decide +kernel), by decide +kernel, by decide +kernel, by decide +kernel⟩
theorem vlX10_305 : VL "LehrBelt" 305 yX9_bestZoneFor bX9_bestZoneFor 6 ((some .int)) 1 := ⟨List.mem_of_getElem? (i := 1130) (by decide +kernel), List.mem_of_getElem? (i := 1131) (by decide +kernel), List.mem_of_getElem? (i := 1132) (by decide +kernel), List.mem_of_getElem? (i := 111) (by decide +kernel), List.mem_of_getElem? (i := 1133) (by decide +kernel), by decide +kernel, by decide +kernel, by decide +kernel⟩
theorem vlX10_308 : VL "LehrBelt" 308 yX9_bestSwap bX9_bestSwap 6 ((some .int)) 0 := ⟨List.mem_of_getElem? (i := 1139) (by decide +kernel), List.mem_of_getElem? (i := 1140) (by decide +kernel), List.mem_of_getElem? (i := 1141) (by decide +kernel), List.mem_of_getElem? (i := 111) (by decide +kernel), List.mem_of_getElem? (i := 1142) (by decide +kernel), by decide +kernel, by decide +kernel, by decide +kernel⟩
theorem vlX10_311 : VL "LehrBelt" 311 yX9_bestSkip bX9_bestSkip 5 ((some .int)) 0 := ⟨List.mem_of_getElem? (i := 1152) (by decide +kernel), List.mem_of_getElem? (i := 1153) (by decide +kernel), List.mem_of_getElem? (i := 1154) (by decide +kernel), List.mem_of_getElem? (i := 111) (by decide +kernel), List.mem_of_getElem? (i := 1155) (by decide +kernel), by decide +kernel, by decide +kernel, by decide +kernel⟩
theorem vlX10_318 : VL "LehrBelt" 318 yX10_rowOf bX10_rowOf 2 ((some (.object "LehrBelt$Row"))) 1 := ⟨List.mem_of_getElem? (i := 1176) (by decide +kernel), List.mem_of_getElem? (i := 1178) (by decide +kernel), List.mem_of_getElem? (i := 24) (by decide +kernel), List.mem_of_getElem? (i := 104) (by decide +kernel), List.mem_of_getElem? (i := 1179) (by decide +kernel), by decide +kernel, by decide +kernel, by decide +kernel⟩
theorem flX10_339 : FL "LehrBelt" 339 7 0 0 := ⟨(RX7, TX7, 4), rfl, inX7, by decide, List.mem_of_getElem? (i := 432) (by decide +kernel), rfl⟩
theorem vlX10_342 : VL "LehrBelt" 342 yX7_tellsSkins bX7_tellsSkins 5 ((some .boolean)) 1 := ⟨List.mem_of_getElem? (i := 1180) (by decide +kernel), List.mem_of_getElem? (i := 1181) (by decide +kernel), List.mem_of_getElem? (i := 1182) (by decide +kernel), List.mem_of_getElem? (i := 114) (by decide +kernel), List.mem_of_getElem? (i := 1183) (by decide +kernel), by decide +kernel, by decide +kernel, by decide +kernel⟩
theorem vlX10_314 : VL "LehrBelt" 314 yX10_refusalOfSeen bX10_refusalOfSeen 4 ((some .int)) 2 := ⟨List.mem_of_getElem? (i := 1172) (by decide +kernel), List.mem_of_getElem? (i := 1174) (by decide +kernel), List.mem_of_getElem? (i := 23) (by decide +kernel), List.mem_of_getElem? (i := 104) (by decide +kernel), List.mem_of_getElem? (i := 1175) (by decide +kernel), by decide +kernel, by decide +kernel, by decide +kernel⟩
theorem vlX10_322 : VL "LehrBelt" 322 yX9_countOfAirs bX9_countOfAirs 5 ((some .int)) 2 := ⟨List.mem_of_getElem? (i := 1185) (by decide +kernel), List.mem_of_getElem? (i := 1186) (by decide +kernel), List.mem_of_getElem? (i := 1187) (by decide +kernel), List.mem_of_getElem? (i := 111) (by decide +kernel), List.mem_of_getElem? (i := 1188) (by decide +kernel), by decide +kernel, by decide +kernel, by decide +kernel⟩
theorem vlX10_326 : VL "LehrBelt" 326 yX9_lowestAir bX9_lowestAir 4 ((some .int)) 2 := ⟨List.mem_of_getElem? (i := 1215) (by decide +kernel), List.mem_of_getElem? (i := 1216) (by decide +kernel), List.mem_of_getElem? (i := 1217) (by decide +kernel), List.mem_of_getElem? (i := 111) (by decide +kernel), List.mem_of_getElem? (i := 1218) (by decide +kernel), by decide +kernel, by decide +kernel, by decide +kernel⟩
theorem vlX10_329 : VL "LehrBelt" 329 yX9_highestAir bX9_highestAir 4 ((some .int)) 2 := ⟨List.mem_of_getElem? (i := 1223) (by decide +kernel), List.mem_of_getElem? (i := 1224) (by decide +kernel), List.mem_of_getElem? (i := 1225) (by decide +kernel), List.mem_of_getElem? (i := 111) (by decide +kernel), List.mem_of_getElem? (i := 1226) (by decide +kernel), by decide +kernel, by decide +kernel, by decide +kernel⟩
theorem vlX10_332 : VL "LehrBelt" 332 yX9_thicksSeen bX9_thicksSeen 5 ((some .int)) 2 := ⟨List.mem_of_getElem? (i := 1231) (by decide +kernel), List.mem_of_getElem? (i := 1232) (by decide +kernel), List.mem_of_getElem? (i := 1233) (by decide +kernel), List.mem_of_getElem? (i := 111) (by decide +kernel), List.mem_of_getElem? (i := 1234) (by decide +kernel), by decide +kernel, by decide +kernel, by decide +kernel⟩
theorem vlX10_335 : VL "LehrBelt" 335 yX9_lawsSeen bX9_lawsSeen 4 ((some .int)) 1 := ⟨List.mem_of_getElem? (i := 1239) (by decide +kernel), List.mem_of_getElem? (i := 1240) (by decide +kernel), List.mem_of_getElem? (i := 1241) (by decide +kernel), List.mem_of_getElem? (i := 111) (by decide +kernel), List.mem_of_getElem? (i := 1242) (by decide +kernel), by decide +kernel, by decide +kernel, by decide +kernel⟩
theorem vlX10_346 : VL "LehrBelt" 346 yX9_soundBitsByLaw bX9_soundBitsByLaw 2 ((some .int)) 1 := ⟨List.mem_of_getElem? (i := 1247) (by decide +kernel), List.mem_of_getElem? (i := 1248) (by decide +kernel), List.mem_of_getElem? (i := 1249) (by decide +kernel), List.mem_of_getElem? (i := 111) (by decide +kernel), List.mem_of_getElem? (i := 1250) (by decide +kernel), by decide +kernel, by decide +kernel, by decide +kernel⟩
theorem vlX10_349 : VL "LehrBelt" 349 yX9_bestLaw bX9_bestLaw 5 ((some .int)) 0 := ⟨List.mem_of_getElem? (i := 1259) (by decide +kernel), List.mem_of_getElem? (i := 1260) (by decide +kernel), List.mem_of_getElem? (i := 1261) (by decide +kernel), List.mem_of_getElem? (i := 111) (by decide +kernel), List.mem_of_getElem? (i := 1262) (by decide +kernel), by decide +kernel, by decide +kernel, by decide +kernel⟩
theorem vlX10_352 : VL "LehrBelt" 352 yX9_worthOf bX9_worthOf 3 ((some .int)) 1 := ⟨List.mem_of_getElem? (i := 1268) (by decide +kernel), List.mem_of_getElem? (i := 1269) (by decide +kernel), List.mem_of_getElem? (i := 1270) (by decide +kernel), List.mem_of_getElem? (i := 111) (by decide +kernel), List.mem_of_getElem? (i := 1271) (by decide +kernel), by decide +kernel, by decide +kernel, by decide +kernel⟩
theorem kcX10_358 : Cond.constant "LehrBelt" 358 (-1000000) ∈ lw_tbl := List.mem_of_getElem? (i := 1279) (by decide +kernel)
theorem slX10_355 : SL "LehrBelt" 355 yX10_isNoPart bX10_isNoPart 1 ((some .boolean)) 1 := ⟨List.mem_of_getElem? (i := 1276) (by decide +kernel), List.mem_of_getElem? (i := 1277) (by decide +kernel), List.mem_of_getElem? (i := 104) (by decide +kernel), List.mem_of_getElem? (i := 1278) (by decide +kernel), by decide +kernel, by decide +kernel, by decide +kernel⟩
theorem vlX10_359 : VL "LehrBelt" 359 yX9_shareOf bX9_shareOf 11 ((some (.object "LehrBelt$Fraction"))) 1 := ⟨List.mem_of_getElem? (i := 1280) (by decide +kernel), List.mem_of_getElem? (i := 1281) (by decide +kernel), List.mem_of_getElem? (i := 1282) (by decide +kernel), List.mem_of_getElem? (i := 111) (by decide +kernel), List.mem_of_getElem? (i := 1283) (by decide +kernel), by decide +kernel, by decide +kernel, by decide +kernel⟩
theorem vlX10_363 : VL "LehrBelt" 363 yX3_part bX3_part 2 ((some .long)) 1 := ⟨List.mem_of_getElem? (i := 1299) (by decide +kernel), List.mem_of_getElem? (i := 1300) (by decide +kernel), List.mem_of_getElem? (i := 1301) (by decide +kernel), List.mem_of_getElem? (i := 112) (by decide +kernel), List.mem_of_getElem? (i := 1302) (by decide +kernel), by decide +kernel, by decide +kernel, by decide +kernel⟩
theorem vlX10_369 : VL "LehrBelt" 369 yX10_isPairOfZones bX10_isPairOfZones 3 ((some .boolean)) 2 := ⟨List.mem_of_getElem? (i := 1307) (by decide +kernel), List.mem_of_getElem? (i := 1309) (by decide +kernel), List.mem_of_getElem? (i := 28) (by decide +kernel), List.mem_of_getElem? (i := 104) (by decide +kernel), List.mem_of_getElem? (i := 1310) (by decide +kernel), by decide +kernel, by decide +kernel, by decide +kernel⟩
theorem vlX10_373 : VL "LehrBelt" 373 yX9_restingChoices bX9_restingChoices 7 ((some .int)) 2 := ⟨List.mem_of_getElem? (i := 1311) (by decide +kernel), List.mem_of_getElem? (i := 1312) (by decide +kernel), List.mem_of_getElem? (i := 1313) (by decide +kernel), List.mem_of_getElem? (i := 111) (by decide +kernel), List.mem_of_getElem? (i := 1314) (by decide +kernel), by decide +kernel, by decide +kernel, by decide +kernel⟩
theorem vlX10_376 : VL "LehrBelt" 376 yX9_gain bX9_gain 6 ((some .int)) 4 := ⟨List.mem_of_getElem? (i := 1323) (by decide +kernel), List.mem_of_getElem? (i := 1316) (by decide +kernel), List.mem_of_getElem? (i := 1317) (by decide +kernel), List.mem_of_getElem? (i := 111) (by decide +kernel), List.mem_of_getElem? (i := 1318) (by decide +kernel), by decide +kernel, by decide +kernel, by decide +kernel⟩
theorem vlX10_380 : VL "LehrBelt" 380 yX10_isChanceStep bX10_isChanceStep 2 ((some .boolean)) 1 := ⟨List.mem_of_getElem? (i := 1328) (by decide +kernel), List.mem_of_getElem? (i := 1330) (by decide +kernel), List.mem_of_getElem? (i := 29) (by decide +kernel), List.mem_of_getElem? (i := 104) (by decide +kernel), List.mem_of_getElem? (i := 1331) (by decide +kernel), by decide +kernel, by decide +kernel, by decide +kernel⟩
theorem flX10_72 : FL "LehrBelt" 72 10 6 2 := ⟨(RX10, TX10, 11), rfl, inX10, by decide, List.mem_of_getElem? (i := 454) (by decide +kernel), rfl⟩
theorem vlX10_383 : VL "LehrBelt" 383 yX4_meanUncracked bX4_meanUncracked 10 ((some (.object "LehrBelt$Fraction"))) 2 := ⟨List.mem_of_getElem? (i := 1332) (by decide +kernel), List.mem_of_getElem? (i := 1333) (by decide +kernel), List.mem_of_getElem? (i := 1334) (by decide +kernel), List.mem_of_getElem? (i := 113) (by decide +kernel), List.mem_of_getElem? (i := 1335) (by decide +kernel), by decide +kernel, by decide +kernel, by decide +kernel⟩
theorem kcX10_387 : Cond.constantLong "LehrBelt" 387 (-2) ∈ lw_tbl := List.mem_of_getElem? (i := 1350) (by decide +kernel)
theorem vlX10_389 : VL "LehrBelt" 389 yX0_addFire bX0_addFire 4 ((some .boolean)) 3 := ⟨List.mem_of_getElem? (i := 1355) (by decide +kernel), List.mem_of_getElem? (i := 1356) (by decide +kernel), List.mem_of_getElem? (i := 1357) (by decide +kernel), List.mem_of_getElem? (i := 109) (by decide +kernel), List.mem_of_getElem? (i := 1358) (by decide +kernel), by decide +kernel, by decide +kernel, by decide +kernel⟩
theorem vlX10_393 : VL "LehrBelt" 393 yX10_soundNow bX10_soundNow 1 ((some .int)) 0 := ⟨List.mem_of_getElem? (i := 1367) (by decide +kernel), List.mem_of_getElem? (i := 1369) (by decide +kernel), List.mem_of_getElem? (i := 33) (by decide +kernel), List.mem_of_getElem? (i := 104) (by decide +kernel), List.mem_of_getElem? (i := 1370) (by decide +kernel), by decide +kernel, by decide +kernel, by decide +kernel⟩
theorem vlX10_396 : VL "LehrBelt" 396 yX0_addGust bX0_addGust 2 ((some .boolean)) 1 := ⟨List.mem_of_getElem? (i := 1375) (by decide +kernel), List.mem_of_getElem? (i := 1376) (by decide +kernel), List.mem_of_getElem? (i := 1377) (by decide +kernel), List.mem_of_getElem? (i := 109) (by decide +kernel), List.mem_of_getElem? (i := 1378) (by decide +kernel), by decide +kernel, by decide +kernel, by decide +kernel⟩
theorem vlX10_399 : VL "LehrBelt" 399 yX0_takeBack bX0_takeBack 1 ((some .boolean)) 0 := ⟨List.mem_of_getElem? (i := 1383) (by decide +kernel), List.mem_of_getElem? (i := 1384) (by decide +kernel), List.mem_of_getElem? (i := 1385) (by decide +kernel), List.mem_of_getElem? (i := 109) (by decide +kernel), List.mem_of_getElem? (i := 1386) (by decide +kernel), by decide +kernel, by decide +kernel, by decide +kernel⟩
theorem flX10_402 : FL "LehrBelt" 402 0 0 0 := ⟨(RX0, TX0, 6), rfl, inX0, by decide, List.mem_of_getElem? (i := 287) (by decide +kernel), rfl⟩
theorem kcX10_405 : Cond.constant "LehrBelt" 405 2000000000 ∈ lw_tbl := List.mem_of_getElem? (i := 1399) (by decide +kernel)
theorem vlX10_410 : VL "LehrBelt" 410 yX4_soundFrom bX4_soundFrom 3 ((some .int)) 1 := ⟨List.mem_of_getElem? (i := 1408) (by decide +kernel), List.mem_of_getElem? (i := 1409) (by decide +kernel), List.mem_of_getElem? (i := 1410) (by decide +kernel), List.mem_of_getElem? (i := 113) (by decide +kernel), List.mem_of_getElem? (i := 1411) (by decide +kernel), by decide +kernel, by decide +kernel, by decide +kernel⟩
theorem vlX10_406 : VL "LehrBelt" 406 yX4_draughtsFrom bX4_draughtsFrom 7 ((some .int)) 1 := ⟨List.mem_of_getElem? (i := 1400) (by decide +kernel), List.mem_of_getElem? (i := 1401) (by decide +kernel), List.mem_of_getElem? (i := 1402) (by decide +kernel), List.mem_of_getElem? (i := 113) (by decide +kernel), List.mem_of_getElem? (i := 1403) (by decide +kernel), by decide +kernel, by decide +kernel, by decide +kernel⟩
theorem vlX10_413 : VL "LehrBelt" 413 yX4_timesSound bX4_timesSound 6 ((some .int)) 3 := ⟨List.mem_of_getElem? (i := 1418) (by decide +kernel), List.mem_of_getElem? (i := 1419) (by decide +kernel), List.mem_of_getElem? (i := 1420) (by decide +kernel), List.mem_of_getElem? (i := 113) (by decide +kernel), List.mem_of_getElem? (i := 1421) (by decide +kernel), by decide +kernel, by decide +kernel, by decide +kernel⟩
theorem flX10_21 : FL "LehrBelt" 21 10 9 2 := ⟨(RX10, TX10, 11), rfl, inX10, by decide, List.mem_of_getElem? (i := 457) (by decide +kernel), rfl⟩
theorem flX10_416 : FL "LehrBelt" 416 5 2 0 := ⟨(RX5, TX5, 13), rfl, inX5, by decide, List.mem_of_getElem? (i := 200) (by decide +kernel), rfl⟩
theorem flX10_419 : FL "LehrBelt" 419 5 3 0 := ⟨(RX5, TX5, 13), rfl, inX5, by decide, List.mem_of_getElem? (i := 204) (by decide +kernel), rfl⟩
theorem flX10_421 : FL "LehrBelt" 421 5 4 0 := ⟨(RX5, TX5, 13), rfl, inX5, by decide, List.mem_of_getElem? (i := 208) (by decide +kernel), rfl⟩
theorem flX10_424 : FL "LehrBelt" 424 5 5 0 := ⟨(RX5, TX5, 13), rfl, inX5, by decide, List.mem_of_getElem? (i := 212) (by decide +kernel), rfl⟩
theorem flX10_427 : FL "LehrBelt" 427 5 7 0 := ⟨(RX5, TX5, 13), rfl, inX5, by decide, List.mem_of_getElem? (i := 222) (by decide +kernel), rfl⟩
theorem vlX10_430 : VL "LehrBelt" 430 yX10_slotsWithRows bX10_slotsWithRows 3 ((some .int)) 0 := ⟨List.mem_of_getElem? (i := 1430) (by decide +kernel), List.mem_of_getElem? (i := 1432) (by decide +kernel), List.mem_of_getElem? (i := 35) (by decide +kernel), List.mem_of_getElem? (i := 104) (by decide +kernel), List.mem_of_getElem? (i := 1433) (by decide +kernel), by decide +kernel, by decide +kernel, by decide +kernel⟩
theorem slX10_433 : SL "LehrBelt" 433 yX10_hasImage bX10_hasImage 1 ((some .boolean)) 1 := ⟨List.mem_of_getElem? (i := 1438) (by decide +kernel), List.mem_of_getElem? (i := 1439) (by decide +kernel), List.mem_of_getElem? (i := 104) (by decide +kernel), List.mem_of_getElem? (i := 1440) (by decide +kernel), by decide +kernel, by decide +kernel, by decide +kernel⟩
theorem flX10_11 : FL "LehrBelt" 11 10 7 2 := ⟨(RX10, TX10, 11), rfl, inX10, by decide, List.mem_of_getElem? (i := 455) (by decide +kernel), rfl⟩
theorem vlX10_436 : VL "LehrBelt" 436 yX1_copyFrom bX1_copyFrom 2 (none) 1 := ⟨List.mem_of_getElem? (i := 1441) (by decide +kernel), List.mem_of_getElem? (i := 1063) (by decide +kernel), List.mem_of_getElem? (i := 1064) (by decide +kernel), List.mem_of_getElem? (i := 108) (by decide +kernel), List.mem_of_getElem? (i := 1065) (by decide +kernel), by decide +kernel, by decide +kernel, by decide +kernel⟩
theorem flX10_15 : FL "LehrBelt" 15 10 8 2 := ⟨(RX10, TX10, 11), rfl, inX10, by decide, List.mem_of_getElem? (i := 456) (by decide +kernel), rfl⟩
theorem vlX10_438 : VL "LehrBelt" 438 yX7_make bX7_make 3 (none) 2 := ⟨List.mem_of_getElem? (i := 1450) (by decide +kernel), List.mem_of_getElem? (i := 1451) (by decide +kernel), List.mem_of_getElem? (i := 1452) (by decide +kernel), List.mem_of_getElem? (i := 114) (by decide +kernel), List.mem_of_getElem? (i := 1453) (by decide +kernel), by decide +kernel, by decide +kernel, by decide +kernel⟩
theorem vlX10_442 : VL "LehrBelt" 442 yX7_put bX7_put 4 ((some .boolean)) 2 := ⟨List.mem_of_getElem? (i := 1462) (by decide +kernel), List.mem_of_getElem? (i := 1463) (by decide +kernel), List.mem_of_getElem? (i := 1464) (by decide +kernel), List.mem_of_getElem? (i := 114) (by decide +kernel), List.mem_of_getElem? (i := 1465) (by decide +kernel), by decide +kernel, by decide +kernel, by decide +kernel⟩
theorem flX10_446 : FL "LehrBelt" 446 7 1 0 := ⟨(RX7, TX7, 4), rfl, inX7, by decide, List.mem_of_getElem? (i := 434) (by decide +kernel), rfl⟩
theorem vlX10_449 : VL "LehrBelt" 449 yX7_holds bX7_holds 3 ((some .boolean)) 2 := ⟨List.mem_of_getElem? (i := 1474) (by decide +kernel), List.mem_of_getElem? (i := 1475) (by decide +kernel), List.mem_of_getElem? (i := 1476) (by decide +kernel), List.mem_of_getElem? (i := 114) (by decide +kernel), List.mem_of_getElem? (i := 1477) (by decide +kernel), by decide +kernel, by decide +kernel, by decide +kernel⟩
theorem flX10_452 : FL "LehrBelt" 452 7 3 2 := ⟨(RX7, TX7, 4), rfl, inX7, by decide, List.mem_of_getElem? (i := 437) (by decide +kernel), rfl⟩
theorem alX10_456 : AL "LehrBelt" 456 := ⟨List.mem_of_getElem? (i := 1478) (by decide +kernel), List.mem_of_getElem? (i := 637) (by decide +kernel), List.mem_of_getElem? (i := 636) (by decide +kernel), List.mem_of_getElem? (i := 121) (by decide +kernel)⟩
set_option maxRecDepth 100000 in
set_option maxHeartbeats 4000000 in
theorem c_X10_thin {l : Launch} {P : Wp} {E : State → Heap → Prop} (hW : Wok shC P E) {p1 : Int32} {M : Mem} {r : Int32} {M' : Mem} (h : f_X10_thin p1 M = some (r, M')) : CT l shC P E yX10_thin bX10_thin 2 ((some .int)) 6 161 [.ref (P.2.2.1 0), .int p1] (some (.int r)) M M' := by
  refine ct_of hW (by decide) (Nat.le_of_ble_eq_true rfl) (fun p e s m args below meth c C ls hl hw => ?_)
  have hx := C.1
  have hb := C.2.1
  replace hl : lv_has ls 2 [(0, .ref (P.2.2.1 0)), (1, .int p1)] := hl
  refine lv_aload_n hx hb dX10_thin_0 rfl (lv_at hl 0 rfl) ?_
  refine wgetR (t := 13) C hw flX10_49 (rfl : _ = some (0, 10)) rfl dX10_thin_1 ?_
  refine wgetR (t := 14) C hw flX10_106 (rfl : _ = some (0, 1)) rfl dX10_thin_4 ?_
  refine lv_iload_n hx hb dX10_thin_7 rfl (lv_at hl 1 rfl) ?_
  refine wcallV1 (As := [.int p1]) (rest := []) C hw (c_X5_hasPiece hW (rfl : _ = some (0, 5)) rfl) vlX10_132 ⟨Nat.le_of_ble_eq_true rfl, Nat.le_of_ble_eq_true rfl⟩ (rfl : _ = some (0, 5)) rfl rfl rfl hl.1 (Nat.le_of_ble_eq_true rfl) dX10_thin_8 ⟨Nat.zero_le _, Nat.zero_le _⟩ (fun H locs hw => ?_)
  refine lv_if_eq (tgt := 25) hx hb dX10_thin_11 (by decide) (fun c1 => ?_) (fun c1 => ?_)
  · replace h := (if_pos c1).symm.trans h
    refine lv_bipush (v := (-2)) hx hb dX10_thin_25 (by decide) ?_
    exact wretI_W C hw h dX10_thin_27
  · replace h := (if_neg c1).symm.trans h
    refine lv_aload_n hx hb dX10_thin_14 rfl (lv_at hl 0 rfl) ?_
    refine wgetR (t := 33) C hw flX10_65 (rfl : _ = some (0, 10)) rfl dX10_thin_15 ?_
    refine lv_iload_n hx hb dX10_thin_18 rfl (lv_at hl 1 rfl) ?_
    obtain ⟨r2, M4, e3, h⟩ := bnd2_some h
    refine wcallV1 (As := [.int p1]) (rest := []) C hw (c_X9_greatestThick hW  e3) vlX10_293 ⟨Nat.le_of_ble_eq_true rfl, Nat.le_of_ble_eq_true rfl⟩ (rfl : _ = some (0, 9)) rfl rfl rfl hl.1 (Nat.le_of_ble_eq_true rfl) dX10_thin_19 ⟨Nat.zero_le _, Nat.zero_le _⟩ (fun H locs hw => ?_)
    refine lv_goto (tgt := 27) hx hb dX10_thin_22 (by decide) ?_
    exact wretI_W C hw h dX10_thin_27
set_option maxRecDepth 100000 in
set_option maxHeartbeats 4000000 in
theorem c_X10_pace {l : Launch} {P : Wp} {E : State → Heap → Prop} (hW : Wok shC P E) {M : Mem} {r : Int32} {M' : Mem} (h : f_X10_pace M = some (r, M')) : CT l shC P E yX10_pace bX10_pace 1 ((some .int)) 7 183 [.ref (P.2.2.1 0)] (some (.int r)) M M' := by
  refine ct_of hW (by decide) (Nat.le_of_ble_eq_true rfl) (fun p e s m args below meth c C ls hl hw => ?_)
  have hx := C.1
  have hb := C.2.1
  replace hl : lv_has ls 1 [(0, .ref (P.2.2.1 0))] := hl
  refine lv_aload_n hx hb dX10_pace_0 rfl (lv_at hl 0 rfl) ?_
  refine wgetR (t := 13) C hw flX10_49 (rfl : _ = some (0, 10)) rfl dX10_pace_1 ?_
  refine wgetR (t := 14) C hw flX10_106 (rfl : _ = some (0, 1)) rfl dX10_pace_4 ?_
  refine wcallV1 (As := []) (rest := []) C hw (c_X5_isTold hW (rfl : _ = some (0, 5)) rfl) vlX10_202 ⟨Nat.le_of_ble_eq_true rfl, Nat.le_of_ble_eq_true rfl⟩ (rfl : _ = some (0, 5)) rfl rfl rfl hl.1 (Nat.le_of_ble_eq_true rfl) dX10_pace_7 ⟨Nat.zero_le _, Nat.zero_le _⟩ (fun H locs hw => ?_)
  refine lv_if_eq (tgt := 23) hx hb dX10_pace_10 (by decide) (fun c1 => ?_) (fun c1 => ?_)
  · replace h := (if_pos c1).symm.trans h
    refine lv_bipush (v := (-2)) hx hb dX10_pace_23 (by decide) ?_
    exact wretI_W C hw h dX10_pace_25
  · replace h := (if_neg c1).symm.trans h
    refine lv_aload_n hx hb dX10_pace_13 rfl (lv_at hl 0 rfl) ?_
    refine wgetR (t := 33) C hw flX10_65 (rfl : _ = some (0, 10)) rfl dX10_pace_14 ?_
    obtain ⟨r2, M4, e3, h⟩ := bnd2_some h
    refine wcallV1 (As := []) (rest := []) C hw (c_X9_bestPace hW  e3) vlX10_296 ⟨Nat.le_of_ble_eq_true rfl, Nat.le_of_ble_eq_true rfl⟩ (rfl : _ = some (0, 9)) rfl rfl rfl hl.1 (Nat.le_of_ble_eq_true rfl) dX10_pace_17 ⟨Nat.zero_le _, Nat.zero_le _⟩ (fun H locs hw => ?_)
    refine lv_goto (tgt := 25) hx hb dX10_pace_20 (by decide) ?_
    exact wretI_W C hw h dX10_pace_25
set_option maxRecDepth 100000 in
set_option maxHeartbeats 4000000 in
theorem c_X10_paced {l : Launch} {P : Wp} {E : State → Heap → Prop} (hW : Wok shC P E) {M : Mem} {r : Int32} {M' : Mem} (h : f_X10_paced M = some (r, M')) : CT l shC P E yX10_paced bX10_paced 1 ((some .int)) 7 183 [.ref (P.2.2.1 0)] (some (.int r)) M M' := by
  refine ct_of hW (by decide) (Nat.le_of_ble_eq_true rfl) (fun p e s m args below meth c C ls hl hw => ?_)
  have hx := C.1
  have hb := C.2.1
  replace hl : lv_has ls 1 [(0, .ref (P.2.2.1 0))] := hl
  refine lv_aload_n hx hb dX10_paced_0 rfl (lv_at hl 0 rfl) ?_
  refine wgetR (t := 13) C hw flX10_49 (rfl : _ = some (0, 10)) rfl dX10_paced_1 ?_
  refine wgetR (t := 14) C hw flX10_106 (rfl : _ = some (0, 1)) rfl dX10_paced_4 ?_
  refine wcallV1 (As := []) (rest := []) C hw (c_X5_isTold hW (rfl : _ = some (0, 5)) rfl) vlX10_202 ⟨Nat.le_of_ble_eq_true rfl, Nat.le_of_ble_eq_true rfl⟩ (rfl : _ = some (0, 5)) rfl rfl rfl hl.1 (Nat.le_of_ble_eq_true rfl) dX10_paced_7 ⟨Nat.zero_le _, Nat.zero_le _⟩ (fun H locs hw => ?_)
  refine lv_if_eq (tgt := 30) hx hb dX10_paced_10 (by decide) (fun c1 => ?_) (fun c1 => ?_)
  · replace h := (if_pos c1).symm.trans h
    refine lv_bipush (v := (-2)) hx hb dX10_paced_30 (by decide) ?_
    exact wretI_W C hw h dX10_paced_32
  · replace h := (if_neg c1).symm.trans h
    refine lv_aload_n hx hb dX10_paced_13 rfl (lv_at hl 0 rfl) ?_
    refine wgetR (t := 33) C hw flX10_65 (rfl : _ = some (0, 10)) rfl dX10_paced_14 ?_
    refine lv_aload_n hx hb dX10_paced_17 rfl (lv_at hl 0 rfl) ?_
    refine wgetR (t := 33) C hw flX10_65 (rfl : _ = some (0, 10)) rfl dX10_paced_18 ?_
    obtain ⟨r2, M4, e3, h⟩ := bnd2_some h
    refine wcallV1 (As := []) (rest := [.ref (P.2.2.1 33)]) C hw (c_X9_bestPace hW  e3) vlX10_296 ⟨Nat.le_of_ble_eq_true rfl, Nat.le_of_ble_eq_true rfl⟩ (rfl : _ = some (0, 9)) rfl rfl rfl hl.1 (Nat.le_of_ble_eq_true rfl) dX10_paced_21 ⟨Nat.zero_le _, Nat.zero_le _⟩ (fun H locs hw => ?_)
    obtain ⟨r5, M7, e6, h⟩ := bnd2_some h
    refine wcallV1 (As := [.int r2]) (rest := []) C hw (c_X9_soundByPace hW  e6) vlX10_299 ⟨Nat.le_of_ble_eq_true rfl, Nat.le_of_ble_eq_true rfl⟩ (rfl : _ = some (0, 9)) rfl rfl rfl hl.1 (Nat.le_of_ble_eq_true rfl) dX10_paced_24 ⟨Nat.zero_le _, Nat.zero_le _⟩ (fun H locs hw => ?_)
    refine lv_goto (tgt := 32) hx hb dX10_paced_27 (by decide) ?_
    exact wretI_W C hw h dX10_paced_32
set_option maxRecDepth 100000 in
set_option maxHeartbeats 4000000 in
theorem c_X10_raise {l : Launch} {P : Wp} {E : State → Heap → Prop} (hW : Wok shC P E) {p1 : Int32} {p2 : Int32} {M : Mem} {r : Int32} {M' : Mem} (h : f_X10_raise p1 p2 M = some (r, M')) : CT l shC P E yX10_raise bX10_raise 3 ((some .int)) 6 163 [.ref (P.2.2.1 0), .int p1, .int p2] (some (.int r)) M M' := by
  refine ct_of hW (by decide) (Nat.le_of_ble_eq_true rfl) (fun p e s m args below meth c C ls hl hw => ?_)
  have hx := C.1
  have hb := C.2.1
  replace hl : lv_has ls 3 [(0, .ref (P.2.2.1 0)), (1, .int p1), (2, .int p2)] := hl
  refine lv_aload_n hx hb dX10_raise_0 rfl (lv_at hl 0 rfl) ?_
  refine wgetR (t := 13) C hw flX10_49 (rfl : _ = some (0, 10)) rfl dX10_raise_1 ?_
  refine wgetR (t := 14) C hw flX10_106 (rfl : _ = some (0, 1)) rfl dX10_raise_4 ?_
  refine lv_iload_n hx hb dX10_raise_7 rfl (lv_at hl 1 rfl) ?_
  refine wcallV1 (As := [.int p1]) (rest := []) C hw (c_X5_hasZone hW (rfl : _ = some (0, 5)) rfl) vlX10_125 ⟨Nat.le_of_ble_eq_true rfl, Nat.le_of_ble_eq_true rfl⟩ (rfl : _ = some (0, 5)) rfl rfl rfl hl.1 (Nat.le_of_ble_eq_true rfl) dX10_raise_8 ⟨Nat.zero_le _, Nat.zero_le _⟩ (fun H locs hw => ?_)
  refine lv_if_eq (tgt := 28) hx hb dX10_raise_11 (by decide) (fun c1 => ?_) (fun c1 => ?_)
  · replace h := (if_pos c1).symm.trans h
    refine lv_bipush (v := (-2)) hx hb dX10_raise_28 (by decide) ?_
    exact wretI_W C hw h dX10_raise_30
  · replace h := (if_neg c1).symm.trans h
    refine lv_aload_n hx hb dX10_raise_14 rfl (lv_at hl 0 rfl) ?_
    refine wgetR (t := 13) C hw flX10_49 (rfl : _ = some (0, 10)) rfl dX10_raise_15 ?_
    refine wgetR (t := 14) C hw flX10_106 (rfl : _ = some (0, 1)) rfl dX10_raise_18 ?_
    refine lv_iload_n hx hb dX10_raise_21 rfl (lv_at hl 2 rfl) ?_
    refine wcallV1 (As := [.int p2]) (rest := []) C hw (c_X5_hasPiece hW (rfl : _ = some (0, 5)) rfl) vlX10_132 ⟨Nat.le_of_ble_eq_true rfl, Nat.le_of_ble_eq_true rfl⟩ (rfl : _ = some (0, 5)) rfl rfl rfl hl.1 (Nat.le_of_ble_eq_true rfl) dX10_raise_22 ⟨Nat.zero_le _, Nat.zero_le _⟩ (fun H locs hw => ?_)
    refine lv_if_ne (tgt := 31) hx hb dX10_raise_25 (by decide) (fun c2 => ?_) (fun c2 => ?_)
    · replace h := (if_neg c2).symm.trans h
      refine lv_aload_n hx hb dX10_raise_31 rfl (lv_at hl 0 rfl) ?_
      refine wgetR (t := 33) C hw flX10_65 (rfl : _ = some (0, 10)) rfl dX10_raise_32 ?_
      refine lv_iload_n hx hb dX10_raise_35 rfl (lv_at hl 1 rfl) ?_
      refine lv_iload_n hx hb dX10_raise_36 rfl (lv_at hl 2 rfl) ?_
      refine lv_sipush (v := 200) hx hb dX10_raise_37 (by decide) ?_
      obtain ⟨r3, M5, e4, h⟩ := bnd2_some h
      refine wcallV1 (As := [.int p1, .int p2, .int 200]) (rest := []) C hw (c_X9_leastRaise hW  e4) vlX10_302 ⟨Nat.le_of_ble_eq_true rfl, Nat.le_of_ble_eq_true rfl⟩ (rfl : _ = some (0, 9)) rfl rfl rfl hl.1 (Nat.le_of_ble_eq_true rfl) dX10_raise_40 ⟨Nat.zero_le _, Nat.zero_le _⟩ (fun H locs hw => ?_)
      exact wretI_W C hw h dX10_raise_43
    · replace h := (if_pos c2).symm.trans h
      refine lv_bipush (v := (-2)) hx hb dX10_raise_28 (by decide) ?_
      exact wretI_W C hw h dX10_raise_30
set_option maxRecDepth 100000 in
set_option maxHeartbeats 4000000 in
theorem c_X10_rescue {l : Launch} {P : Wp} {E : State → Heap → Prop} (hW : Wok shC P E) {p1 : Int32} {M : Mem} {r : Int32} {M' : Mem} (h : f_X10_rescue p1 M = some (r, M')) : CT l shC P E yX10_rescue bX10_rescue 2 ((some .int)) 7 188 [.ref (P.2.2.1 0), .int p1] (some (.int r)) M M' := by
  refine ct_of hW (by decide) (Nat.le_of_ble_eq_true rfl) (fun p e s m args below meth c C ls hl hw => ?_)
  have hx := C.1
  have hb := C.2.1
  replace hl : lv_has ls 2 [(0, .ref (P.2.2.1 0)), (1, .int p1)] := hl
  refine lv_aload_n hx hb dX10_rescue_0 rfl (lv_at hl 0 rfl) ?_
  refine wgetR (t := 13) C hw flX10_49 (rfl : _ = some (0, 10)) rfl dX10_rescue_1 ?_
  refine wgetR (t := 14) C hw flX10_106 (rfl : _ = some (0, 1)) rfl dX10_rescue_4 ?_
  refine lv_iload_n hx hb dX10_rescue_7 rfl (lv_at hl 1 rfl) ?_
  refine wcallV1 (As := [.int p1]) (rest := []) C hw (c_X5_hasPiece hW (rfl : _ = some (0, 5)) rfl) vlX10_132 ⟨Nat.le_of_ble_eq_true rfl, Nat.le_of_ble_eq_true rfl⟩ (rfl : _ = some (0, 5)) rfl rfl rfl hl.1 (Nat.le_of_ble_eq_true rfl) dX10_rescue_8 ⟨Nat.zero_le _, Nat.zero_le _⟩ (fun H locs hw => ?_)
  refine lv_if_eq (tgt := 25) hx hb dX10_rescue_11 (by decide) (fun c1 => ?_) (fun c1 => ?_)
  · replace h := (if_pos c1).symm.trans h
    refine lv_bipush (v := (-2)) hx hb dX10_rescue_25 (by decide) ?_
    exact wretI_W C hw h dX10_rescue_27
  · replace h := (if_neg c1).symm.trans h
    refine lv_aload_n hx hb dX10_rescue_14 rfl (lv_at hl 0 rfl) ?_
    refine wgetR (t := 33) C hw flX10_65 (rfl : _ = some (0, 10)) rfl dX10_rescue_15 ?_
    refine lv_iload_n hx hb dX10_rescue_18 rfl (lv_at hl 1 rfl) ?_
    obtain ⟨r2, M4, e3, h⟩ := bnd2_some h
    refine wcallV1 (As := [.int p1]) (rest := []) C hw (c_X9_bestZoneFor hW  e3) vlX10_305 ⟨Nat.le_of_ble_eq_true rfl, Nat.le_of_ble_eq_true rfl⟩ (rfl : _ = some (0, 9)) rfl rfl rfl hl.1 (Nat.le_of_ble_eq_true rfl) dX10_rescue_19 ⟨Nat.zero_le _, Nat.zero_le _⟩ (fun H locs hw => ?_)
    refine lv_goto (tgt := 27) hx hb dX10_rescue_22 (by decide) ?_
    exact wretI_W C hw h dX10_rescue_27
set_option maxRecDepth 100000 in
set_option maxHeartbeats 4000000 in
theorem c_X10_swap {l : Launch} {P : Wp} {E : State → Heap → Prop} (hW : Wok shC P E) {M : Mem} {r : Int32} {M' : Mem} (h : f_X10_swap M = some (r, M')) : CT l shC P E yX10_swap bX10_swap 1 ((some .int)) 6 163 [.ref (P.2.2.1 0)] (some (.int r)) M M' := by
  refine ct_of hW (by decide) (Nat.le_of_ble_eq_true rfl) (fun p e s m args below meth c C ls hl hw => ?_)
  have hx := C.1
  have hb := C.2.1
  replace hl : lv_has ls 1 [(0, .ref (P.2.2.1 0))] := hl
  refine lv_aload_n hx hb dX10_swap_0 rfl (lv_at hl 0 rfl) ?_
  refine wgetR (t := 13) C hw flX10_49 (rfl : _ = some (0, 10)) rfl dX10_swap_1 ?_
  refine wgetR (t := 14) C hw flX10_106 (rfl : _ = some (0, 1)) rfl dX10_swap_4 ?_
  refine wcallV1 (As := []) (rest := []) C hw (c_X5_isTold hW (rfl : _ = some (0, 5)) rfl) vlX10_202 ⟨Nat.le_of_ble_eq_true rfl, Nat.le_of_ble_eq_true rfl⟩ (rfl : _ = some (0, 5)) rfl rfl rfl hl.1 (Nat.le_of_ble_eq_true rfl) dX10_swap_7 ⟨Nat.zero_le _, Nat.zero_le _⟩ (fun H locs hw => ?_)
  refine lv_if_eq (tgt := 23) hx hb dX10_swap_10 (by decide) (fun c1 => ?_) (fun c1 => ?_)
  · replace h := (if_pos c1).symm.trans h
    refine lv_bipush (v := (-2)) hx hb dX10_swap_23 (by decide) ?_
    exact wretI_W C hw h dX10_swap_25
  · replace h := (if_neg c1).symm.trans h
    refine lv_aload_n hx hb dX10_swap_13 rfl (lv_at hl 0 rfl) ?_
    refine wgetR (t := 33) C hw flX10_65 (rfl : _ = some (0, 10)) rfl dX10_swap_14 ?_
    obtain ⟨r2, M4, e3, h⟩ := bnd2_some h
    refine wcallV1 (As := []) (rest := []) C hw (c_X9_bestSwap hW  e3) vlX10_308 ⟨Nat.le_of_ble_eq_true rfl, Nat.le_of_ble_eq_true rfl⟩ (rfl : _ = some (0, 9)) rfl rfl rfl hl.1 (Nat.le_of_ble_eq_true rfl) dX10_swap_17 ⟨Nat.zero_le _, Nat.zero_le _⟩ (fun H locs hw => ?_)
    refine lv_goto (tgt := 25) hx hb dX10_swap_20 (by decide) ?_
    exact wretI_W C hw h dX10_swap_25
set_option maxRecDepth 100000 in
set_option maxHeartbeats 4000000 in
theorem c_X10_skip {l : Launch} {P : Wp} {E : State → Heap → Prop} (hW : Wok shC P E) {M : Mem} {r : Int32} {M' : Mem} (h : f_X10_skip M = some (r, M')) : CT l shC P E yX10_skip bX10_skip 1 ((some .int)) 6 162 [.ref (P.2.2.1 0)] (some (.int r)) M M' := by
  refine ct_of hW (by decide) (Nat.le_of_ble_eq_true rfl) (fun p e s m args below meth c C ls hl hw => ?_)
  have hx := C.1
  have hb := C.2.1
  replace hl : lv_has ls 1 [(0, .ref (P.2.2.1 0))] := hl
  refine lv_aload_n hx hb dX10_skip_0 rfl (lv_at hl 0 rfl) ?_
  refine wgetR (t := 13) C hw flX10_49 (rfl : _ = some (0, 10)) rfl dX10_skip_1 ?_
  refine wgetR (t := 14) C hw flX10_106 (rfl : _ = some (0, 1)) rfl dX10_skip_4 ?_
  refine wcallV1 (As := []) (rest := []) C hw (c_X5_isTold hW (rfl : _ = some (0, 5)) rfl) vlX10_202 ⟨Nat.le_of_ble_eq_true rfl, Nat.le_of_ble_eq_true rfl⟩ (rfl : _ = some (0, 5)) rfl rfl rfl hl.1 (Nat.le_of_ble_eq_true rfl) dX10_skip_7 ⟨Nat.zero_le _, Nat.zero_le _⟩ (fun H locs hw => ?_)
  refine lv_if_eq (tgt := 23) hx hb dX10_skip_10 (by decide) (fun c1 => ?_) (fun c1 => ?_)
  · replace h := (if_pos c1).symm.trans h
    refine lv_bipush (v := (-2)) hx hb dX10_skip_23 (by decide) ?_
    exact wretI_W C hw h dX10_skip_25
  · replace h := (if_neg c1).symm.trans h
    refine lv_aload_n hx hb dX10_skip_13 rfl (lv_at hl 0 rfl) ?_
    refine wgetR (t := 33) C hw flX10_65 (rfl : _ = some (0, 10)) rfl dX10_skip_14 ?_
    obtain ⟨r2, M4, e3, h⟩ := bnd2_some h
    refine wcallV1 (As := []) (rest := []) C hw (c_X9_bestSkip hW  e3) vlX10_311 ⟨Nat.le_of_ble_eq_true rfl, Nat.le_of_ble_eq_true rfl⟩ (rfl : _ = some (0, 9)) rfl rfl rfl hl.1 (Nat.le_of_ble_eq_true rfl) dX10_skip_17 ⟨Nat.zero_le _, Nat.zero_le _⟩ (fun H locs hw => ?_)
    refine lv_goto (tgt := 25) hx hb dX10_skip_20 (by decide) ?_
    exact wretI_W C hw h dX10_skip_25
set_option maxRecDepth 100000 in
set_option maxHeartbeats 4000000 in
theorem c_X10_refusalOfSeen {l : Launch} {P : Wp} {E : State → Heap → Prop} (hW : Wok shC P E) {p1 : Int32} {p2 : Int32} {M : Mem} {r : Int32} (h : f_X10_refusalOfSeen p1 p2 M = some r) : CT l shC P E yX10_refusalOfSeen bX10_refusalOfSeen 4 ((some .int)) 1 24 [.ref (P.2.2.1 0), .int p1, .int p2] (some (.int r)) M M := by
  refine ct_of hW (by decide) (Nat.le_of_ble_eq_true rfl) (fun p e s m args below meth c C ls hl hw => ?_)
  have hx := C.1
  have hb := C.2.1
  replace hl : lv_has ls 4 [(0, .ref (P.2.2.1 0)), (1, .int p1), (2, .int p2)] := hl
  refine lv_aload_n hx hb dX10_refusalOfSeen_0 rfl (lv_at hl 0 rfl) ?_
  refine lv_iload_n hx hb dX10_refusalOfSeen_1 rfl (lv_at hl 1 rfl) ?_
  refine wcallV1 (As := [.int p1]) (rest := []) C hw (c_X10_rowOf hW  rfl) vlX10_318 ⟨Nat.le_of_ble_eq_true rfl, Nat.le_of_ble_eq_true rfl⟩ (rfl : _ = some (0, 10)) rfl rfl rfl hl.1 (Nat.le_of_ble_eq_true rfl) dX10_refusalOfSeen_2 ⟨Nat.zero_le _, Nat.zero_le _⟩ (fun H locs hw => ?_)
  cases e2 : f_X10_rowOf p1 M with
  | none =>
    replace h := optc_none e2 h
    refine lv_astore_nN (lv' := [(3, .null), (0, .ref (P.2.2.1 0)), (1, .int p1), (2, .int p2)]) hx hb dX10_refusalOfSeen_5 rfl hl (by decide) rfl (fun ls hl => ?_)
    refine lv_aload_nN hx hb dX10_refusalOfSeen_6 rfl (lv_at hl 0 rfl) ?_
    refine lv_ifnullN (tgt := 14) hx hb dX10_refusalOfSeen_7 (by decide) ?_
    refine lv_bipush (v := (-2)) hx hb dX10_refusalOfSeen_14 (by decide) ?_
    exact wretI_R C hw h dX10_refusalOfSeen_16
  | some k1 =>
    replace h := optc_some e2 h
    refine lv_astore_n (lv' := [(3, .ref (P.2.2.1 k1)), (0, .ref (P.2.2.1 0)), (1, .int p1), (2, .int p2)]) hx hb dX10_refusalOfSeen_5 rfl hl (by decide) rfl (fun ls hl => ?_)
    refine lv_aload_n hx hb dX10_refusalOfSeen_6 rfl (lv_at hl 0 rfl) ?_
    refine lv_ifnull hx hb dX10_refusalOfSeen_7 ?_
    refine lv_iload_n hx hb dX10_refusalOfSeen_10 rfl (lv_at hl 3 rfl) ?_
    refine lv_if_ne (tgt := 17) hx hb dX10_refusalOfSeen_11 (by decide) (fun c3 => ?_) (fun c3 => ?_)
    · replace h := (if_neg c3).symm.trans h
      refine lv_aload_n hx hb dX10_refusalOfSeen_17 rfl (lv_at hl 0 rfl) ?_
      refine wgetI C hw flX10_339 (rowOf_ho e2) dX10_refusalOfSeen_18 ?_
      refine lv_if_ne (tgt := 27) hx hb dX10_refusalOfSeen_21 (by decide) (fun c4 => ?_) (fun c4 => ?_)
      · replace h := (if_neg c4).symm.trans h
        refine lv_aload_n hx hb dX10_refusalOfSeen_27 rfl (lv_at hl 0 rfl) ?_
        refine lv_aload_n hx hb dX10_refusalOfSeen_28 rfl (lv_at hl 1 rfl) ?_
        refine wgetR (t := 13) C hw flX10_49 (rfl : _ = some (0, 10)) rfl dX10_refusalOfSeen_29 ?_
        refine wgetR (t := 14) C hw flX10_106 (rfl : _ = some (0, 1)) rfl dX10_refusalOfSeen_32 ?_
        obtain ⟨r5, e6, h⟩ := bnd_some h
        refine wcallV1 (As := [.ref (P.2.2.1 14)]) (rest := []) C hw (c_X7_tellsSkins hW (rowOf_ho e2) (rfl : _ = some (0, 5)) e6) vlX10_342 ⟨Nat.le_of_ble_eq_true rfl, Nat.le_of_ble_eq_true rfl⟩ (rowOf_ho e2) rfl rfl rfl hl.1 (Nat.le_of_ble_eq_true rfl) dX10_refusalOfSeen_35 ⟨Nat.zero_le _, Nat.zero_le _⟩ (fun H locs hw => ?_)
        refine lv_if_eq (tgt := 45) hx hb dX10_refusalOfSeen_38 (by decide) (fun c7 => ?_) (fun c7 => ?_)
        · replace h := (if_pos c7).symm.trans h
          refine lv_bipush (v := (-2)) hx hb dX10_refusalOfSeen_45 (by decide) ?_
          exact wretI_R C hw h dX10_refusalOfSeen_47
        · replace h := (if_neg c7).symm.trans h
          refine lv_iconst (v := 0) hx hb dX10_refusalOfSeen_41 (by decide) ?_
          refine lv_goto (tgt := 47) hx hb dX10_refusalOfSeen_42 (by decide) ?_
          exact wretI_R C hw h dX10_refusalOfSeen_47
      · replace h := (if_pos c4).symm.trans h
        refine lv_bipush (v := (-6)) hx hb dX10_refusalOfSeen_24 (by decide) ?_
        exact wretI_R C hw h dX10_refusalOfSeen_26
    · replace h := (if_pos c3).symm.trans h
      refine lv_bipush (v := (-2)) hx hb dX10_refusalOfSeen_14 (by decide) ?_
      exact wretI_R C hw h dX10_refusalOfSeen_16
set_option maxRecDepth 100000 in
set_option maxHeartbeats 4000000 in
theorem c_X10_airs {l : Launch} {P : Wp} {E : State → Heap → Prop} (hW : Wok shC P E) {p1 : Int32} {p2 : Int32} {M : Mem} {r : Int32} {M' : Mem} (h : f_X10_airs p1 p2 M = some (r, M')) : CT l shC P E yX10_airs bX10_airs 4 ((some .int)) 7 186 [.ref (P.2.2.1 0), .int p1, .int p2] (some (.int r)) M M' := by
  refine ct_of hW (by decide) (Nat.le_of_ble_eq_true rfl) (fun p e s m args below meth c C ls hl hw => ?_)
  have hx := C.1
  have hb := C.2.1
  replace hl : lv_has ls 4 [(0, .ref (P.2.2.1 0)), (1, .int p1), (2, .int p2)] := hl
  refine lv_aload_n hx hb dX10_airs_0 rfl (lv_at hl 0 rfl) ?_
  refine lv_iload_n hx hb dX10_airs_1 rfl (lv_at hl 1 rfl) ?_
  refine lv_aload_n hx hb dX10_airs_2 rfl (lv_at hl 0 rfl) ?_
  refine wgetR (t := 13) C hw flX10_49 (rfl : _ = some (0, 10)) rfl dX10_airs_3 ?_
  refine wgetR (t := 14) C hw flX10_106 (rfl : _ = some (0, 1)) rfl dX10_airs_6 ?_
  refine lv_iload_n hx hb dX10_airs_9 rfl (lv_at hl 2 rfl) ?_
  refine wcallV1 (As := [.int p2]) (rest := [.int p1, .ref (P.2.2.1 0)]) C hw (c_X5_hasZone hW (rfl : _ = some (0, 5)) rfl) vlX10_125 ⟨Nat.le_of_ble_eq_true rfl, Nat.le_of_ble_eq_true rfl⟩ (rfl : _ = some (0, 5)) rfl rfl rfl hl.1 (Nat.le_of_ble_eq_true rfl) dX10_airs_10 ⟨Nat.zero_le _, Nat.zero_le _⟩ (fun H locs hw => ?_)
  obtain ⟨r1, e2, h⟩ := bnd_some h
  refine wcallV1 (As := [.int p1, .int (f_X5_hasZone 14 p2 M)]) (rest := []) C hw (c_X10_refusalOfSeen hW  e2) vlX10_314 ⟨Nat.le_of_ble_eq_true rfl, Nat.le_of_ble_eq_true rfl⟩ (rfl : _ = some (0, 10)) rfl rfl rfl hl.1 (Nat.le_of_ble_eq_true rfl) dX10_airs_13 ⟨Nat.zero_le _, Nat.zero_le _⟩ (fun H locs hw => ?_)
  refine lv_istore_n (lv' := [(3, .int r1), (0, .ref (P.2.2.1 0)), (1, .int p1), (2, .int p2)]) hx hb dX10_airs_16 rfl hl (by decide) rfl (fun ls hl => ?_)
  refine lv_iload_n hx hb dX10_airs_17 rfl (lv_at hl 0 rfl) ?_
  refine lv_if_eq (tgt := 25) hx hb dX10_airs_18 (by decide) (fun c3 => ?_) (fun c3 => ?_)
  · replace h := (if_pos c3).symm.trans h
    refine lv_aload_n hx hb dX10_airs_25 rfl (lv_at hl 1 rfl) ?_
    refine wgetR (t := 33) C hw flX10_65 (rfl : _ = some (0, 10)) rfl dX10_airs_26 ?_
    refine lv_aload_n hx hb dX10_airs_29 rfl (lv_at hl 1 rfl) ?_
    refine lv_iload_n hx hb dX10_airs_30 rfl (lv_at hl 2 rfl) ?_
    refine wcallV1 (As := [.int p1]) (rest := [.ref (P.2.2.1 33)]) C hw (c_X10_rowOf hW  rfl) vlX10_318 ⟨Nat.le_of_ble_eq_true rfl, Nat.le_of_ble_eq_true rfl⟩ (rfl : _ = some (0, 10)) rfl rfl rfl hl.1 (Nat.le_of_ble_eq_true rfl) dX10_airs_31 ⟨Nat.zero_le _, Nat.zero_le _⟩ (fun H locs hw => ?_)
    cases e5 : f_X10_rowOf p1 M with
    | none =>
      replace h := optc_none e5 h
      refine lv_iload_n hx hb dX10_airs_34 rfl (lv_at hl 3 rfl) ?_
      cases h
    | some k4 =>
      replace h := optc_some e5 h
      refine lv_iload_n hx hb dX10_airs_34 rfl (lv_at hl 3 rfl) ?_
      obtain ⟨r6, M8, e7, h⟩ := bnd2_some h
      refine wcallV1 (As := [.ref (P.2.2.1 k4), .int p2]) (rest := []) C hw (c_X9_countOfAirs hW (rowOf_ho e5) e7) vlX10_322 ⟨Nat.le_of_ble_eq_true rfl, Nat.le_of_ble_eq_true rfl⟩ (rfl : _ = some (0, 9)) rfl rfl rfl hl.1 (Nat.le_of_ble_eq_true rfl) dX10_airs_35 ⟨Nat.zero_le _, Nat.zero_le _⟩ (fun H locs hw => ?_)
      exact wretI_W C hw h dX10_airs_38
  · replace h := (if_neg c3).symm.trans h
    refine lv_iload_n hx hb dX10_airs_21 rfl (lv_at hl 0 rfl) ?_
    refine lv_goto (tgt := 38) hx hb dX10_airs_22 (by decide) ?_
    exact wretI_W C hw h dX10_airs_38
set_option maxRecDepth 100000 in
set_option maxHeartbeats 4000000 in
theorem c_X10_low {l : Launch} {P : Wp} {E : State → Heap → Prop} (hW : Wok shC P E) {p1 : Int32} {p2 : Int32} {M : Mem} {r : Int32} {M' : Mem} (h : f_X10_low p1 p2 M = some (r, M')) : CT l shC P E yX10_low bX10_low 4 ((some .int)) 7 185 [.ref (P.2.2.1 0), .int p1, .int p2] (some (.int r)) M M' := by
  refine ct_of hW (by decide) (Nat.le_of_ble_eq_true rfl) (fun p e s m args below meth c C ls hl hw => ?_)
  have hx := C.1
  have hb := C.2.1
  replace hl : lv_has ls 4 [(0, .ref (P.2.2.1 0)), (1, .int p1), (2, .int p2)] := hl
  refine lv_aload_n hx hb dX10_low_0 rfl (lv_at hl 0 rfl) ?_
  refine lv_iload_n hx hb dX10_low_1 rfl (lv_at hl 1 rfl) ?_
  refine lv_aload_n hx hb dX10_low_2 rfl (lv_at hl 0 rfl) ?_
  refine wgetR (t := 13) C hw flX10_49 (rfl : _ = some (0, 10)) rfl dX10_low_3 ?_
  refine wgetR (t := 14) C hw flX10_106 (rfl : _ = some (0, 1)) rfl dX10_low_6 ?_
  refine lv_iload_n hx hb dX10_low_9 rfl (lv_at hl 2 rfl) ?_
  refine wcallV1 (As := [.int p2]) (rest := [.int p1, .ref (P.2.2.1 0)]) C hw (c_X5_hasZone hW (rfl : _ = some (0, 5)) rfl) vlX10_125 ⟨Nat.le_of_ble_eq_true rfl, Nat.le_of_ble_eq_true rfl⟩ (rfl : _ = some (0, 5)) rfl rfl rfl hl.1 (Nat.le_of_ble_eq_true rfl) dX10_low_10 ⟨Nat.zero_le _, Nat.zero_le _⟩ (fun H locs hw => ?_)
  obtain ⟨r1, e2, h⟩ := bnd_some h
  refine wcallV1 (As := [.int p1, .int (f_X5_hasZone 14 p2 M)]) (rest := []) C hw (c_X10_refusalOfSeen hW  e2) vlX10_314 ⟨Nat.le_of_ble_eq_true rfl, Nat.le_of_ble_eq_true rfl⟩ (rfl : _ = some (0, 10)) rfl rfl rfl hl.1 (Nat.le_of_ble_eq_true rfl) dX10_low_13 ⟨Nat.zero_le _, Nat.zero_le _⟩ (fun H locs hw => ?_)
  refine lv_istore_n (lv' := [(3, .int r1), (0, .ref (P.2.2.1 0)), (1, .int p1), (2, .int p2)]) hx hb dX10_low_16 rfl hl (by decide) rfl (fun ls hl => ?_)
  refine lv_iload_n hx hb dX10_low_17 rfl (lv_at hl 0 rfl) ?_
  refine lv_if_eq (tgt := 25) hx hb dX10_low_18 (by decide) (fun c3 => ?_) (fun c3 => ?_)
  · replace h := (if_pos c3).symm.trans h
    refine lv_aload_n hx hb dX10_low_25 rfl (lv_at hl 1 rfl) ?_
    refine wgetR (t := 33) C hw flX10_65 (rfl : _ = some (0, 10)) rfl dX10_low_26 ?_
    refine lv_aload_n hx hb dX10_low_29 rfl (lv_at hl 1 rfl) ?_
    refine lv_iload_n hx hb dX10_low_30 rfl (lv_at hl 2 rfl) ?_
    refine wcallV1 (As := [.int p1]) (rest := [.ref (P.2.2.1 33)]) C hw (c_X10_rowOf hW  rfl) vlX10_318 ⟨Nat.le_of_ble_eq_true rfl, Nat.le_of_ble_eq_true rfl⟩ (rfl : _ = some (0, 10)) rfl rfl rfl hl.1 (Nat.le_of_ble_eq_true rfl) dX10_low_31 ⟨Nat.zero_le _, Nat.zero_le _⟩ (fun H locs hw => ?_)
    cases e5 : f_X10_rowOf p1 M with
    | none =>
      replace h := optc_none e5 h
      refine lv_iload_n hx hb dX10_low_34 rfl (lv_at hl 3 rfl) ?_
      cases h
    | some k4 =>
      replace h := optc_some e5 h
      refine lv_iload_n hx hb dX10_low_34 rfl (lv_at hl 3 rfl) ?_
      obtain ⟨r6, M8, e7, h⟩ := bnd2_some h
      refine wcallV1 (As := [.ref (P.2.2.1 k4), .int p2]) (rest := []) C hw (c_X9_lowestAir hW (rowOf_ho e5) e7) vlX10_326 ⟨Nat.le_of_ble_eq_true rfl, Nat.le_of_ble_eq_true rfl⟩ (rfl : _ = some (0, 9)) rfl rfl rfl hl.1 (Nat.le_of_ble_eq_true rfl) dX10_low_35 ⟨Nat.zero_le _, Nat.zero_le _⟩ (fun H locs hw => ?_)
      exact wretI_W C hw h dX10_low_38
  · replace h := (if_neg c3).symm.trans h
    refine lv_iload_n hx hb dX10_low_21 rfl (lv_at hl 0 rfl) ?_
    refine lv_goto (tgt := 38) hx hb dX10_low_22 (by decide) ?_
    exact wretI_W C hw h dX10_low_38
set_option maxRecDepth 100000 in
set_option maxHeartbeats 4000000 in
theorem c_X10_high {l : Launch} {P : Wp} {E : State → Heap → Prop} (hW : Wok shC P E) {p1 : Int32} {p2 : Int32} {M : Mem} {r : Int32} {M' : Mem} (h : f_X10_high p1 p2 M = some (r, M')) : CT l shC P E yX10_high bX10_high 4 ((some .int)) 7 185 [.ref (P.2.2.1 0), .int p1, .int p2] (some (.int r)) M M' := by
  refine ct_of hW (by decide) (Nat.le_of_ble_eq_true rfl) (fun p e s m args below meth c C ls hl hw => ?_)
  have hx := C.1
  have hb := C.2.1
  replace hl : lv_has ls 4 [(0, .ref (P.2.2.1 0)), (1, .int p1), (2, .int p2)] := hl
  refine lv_aload_n hx hb dX10_high_0 rfl (lv_at hl 0 rfl) ?_
  refine lv_iload_n hx hb dX10_high_1 rfl (lv_at hl 1 rfl) ?_
  refine lv_aload_n hx hb dX10_high_2 rfl (lv_at hl 0 rfl) ?_
  refine wgetR (t := 13) C hw flX10_49 (rfl : _ = some (0, 10)) rfl dX10_high_3 ?_
  refine wgetR (t := 14) C hw flX10_106 (rfl : _ = some (0, 1)) rfl dX10_high_6 ?_
  refine lv_iload_n hx hb dX10_high_9 rfl (lv_at hl 2 rfl) ?_
  refine wcallV1 (As := [.int p2]) (rest := [.int p1, .ref (P.2.2.1 0)]) C hw (c_X5_hasZone hW (rfl : _ = some (0, 5)) rfl) vlX10_125 ⟨Nat.le_of_ble_eq_true rfl, Nat.le_of_ble_eq_true rfl⟩ (rfl : _ = some (0, 5)) rfl rfl rfl hl.1 (Nat.le_of_ble_eq_true rfl) dX10_high_10 ⟨Nat.zero_le _, Nat.zero_le _⟩ (fun H locs hw => ?_)
  obtain ⟨r1, e2, h⟩ := bnd_some h
  refine wcallV1 (As := [.int p1, .int (f_X5_hasZone 14 p2 M)]) (rest := []) C hw (c_X10_refusalOfSeen hW  e2) vlX10_314 ⟨Nat.le_of_ble_eq_true rfl, Nat.le_of_ble_eq_true rfl⟩ (rfl : _ = some (0, 10)) rfl rfl rfl hl.1 (Nat.le_of_ble_eq_true rfl) dX10_high_13 ⟨Nat.zero_le _, Nat.zero_le _⟩ (fun H locs hw => ?_)
  refine lv_istore_n (lv' := [(3, .int r1), (0, .ref (P.2.2.1 0)), (1, .int p1), (2, .int p2)]) hx hb dX10_high_16 rfl hl (by decide) rfl (fun ls hl => ?_)
  refine lv_iload_n hx hb dX10_high_17 rfl (lv_at hl 0 rfl) ?_
  refine lv_if_eq (tgt := 25) hx hb dX10_high_18 (by decide) (fun c3 => ?_) (fun c3 => ?_)
  · replace h := (if_pos c3).symm.trans h
    refine lv_aload_n hx hb dX10_high_25 rfl (lv_at hl 1 rfl) ?_
    refine wgetR (t := 33) C hw flX10_65 (rfl : _ = some (0, 10)) rfl dX10_high_26 ?_
    refine lv_aload_n hx hb dX10_high_29 rfl (lv_at hl 1 rfl) ?_
    refine lv_iload_n hx hb dX10_high_30 rfl (lv_at hl 2 rfl) ?_
    refine wcallV1 (As := [.int p1]) (rest := [.ref (P.2.2.1 33)]) C hw (c_X10_rowOf hW  rfl) vlX10_318 ⟨Nat.le_of_ble_eq_true rfl, Nat.le_of_ble_eq_true rfl⟩ (rfl : _ = some (0, 10)) rfl rfl rfl hl.1 (Nat.le_of_ble_eq_true rfl) dX10_high_31 ⟨Nat.zero_le _, Nat.zero_le _⟩ (fun H locs hw => ?_)
    cases e5 : f_X10_rowOf p1 M with
    | none =>
      replace h := optc_none e5 h
      refine lv_iload_n hx hb dX10_high_34 rfl (lv_at hl 3 rfl) ?_
      cases h
    | some k4 =>
      replace h := optc_some e5 h
      refine lv_iload_n hx hb dX10_high_34 rfl (lv_at hl 3 rfl) ?_
      obtain ⟨r6, M8, e7, h⟩ := bnd2_some h
      refine wcallV1 (As := [.ref (P.2.2.1 k4), .int p2]) (rest := []) C hw (c_X9_highestAir hW (rowOf_ho e5) e7) vlX10_329 ⟨Nat.le_of_ble_eq_true rfl, Nat.le_of_ble_eq_true rfl⟩ (rfl : _ = some (0, 9)) rfl rfl rfl hl.1 (Nat.le_of_ble_eq_true rfl) dX10_high_35 ⟨Nat.zero_le _, Nat.zero_le _⟩ (fun H locs hw => ?_)
      exact wretI_W C hw h dX10_high_38
  · replace h := (if_neg c3).symm.trans h
    refine lv_iload_n hx hb dX10_high_21 rfl (lv_at hl 0 rfl) ?_
    refine lv_goto (tgt := 38) hx hb dX10_high_22 (by decide) ?_
    exact wretI_W C hw h dX10_high_38
set_option maxRecDepth 100000 in
set_option maxHeartbeats 4000000 in
theorem c_X10_thicks {l : Launch} {P : Wp} {E : State → Heap → Prop} (hW : Wok shC P E) {p1 : Int32} {p2 : Int32} {M : Mem} {r : Int32} {M' : Mem} (h : f_X10_thicks p1 p2 M = some (r, M')) : CT l shC P E yX10_thicks bX10_thicks 4 ((some .int)) 6 163 [.ref (P.2.2.1 0), .int p1, .int p2] (some (.int r)) M M' := by
  refine ct_of hW (by decide) (Nat.le_of_ble_eq_true rfl) (fun p e s m args below meth c C ls hl hw => ?_)
  have hx := C.1
  have hb := C.2.1
  replace hl : lv_has ls 4 [(0, .ref (P.2.2.1 0)), (1, .int p1), (2, .int p2)] := hl
  refine lv_aload_n hx hb dX10_thicks_0 rfl (lv_at hl 0 rfl) ?_
  refine lv_iload_n hx hb dX10_thicks_1 rfl (lv_at hl 1 rfl) ?_
  refine lv_aload_n hx hb dX10_thicks_2 rfl (lv_at hl 0 rfl) ?_
  refine wgetR (t := 13) C hw flX10_49 (rfl : _ = some (0, 10)) rfl dX10_thicks_3 ?_
  refine wgetR (t := 14) C hw flX10_106 (rfl : _ = some (0, 1)) rfl dX10_thicks_6 ?_
  refine lv_iload_n hx hb dX10_thicks_9 rfl (lv_at hl 2 rfl) ?_
  refine wcallV1 (As := [.int p2]) (rest := [.int p1, .ref (P.2.2.1 0)]) C hw (c_X5_hasPiece hW (rfl : _ = some (0, 5)) rfl) vlX10_132 ⟨Nat.le_of_ble_eq_true rfl, Nat.le_of_ble_eq_true rfl⟩ (rfl : _ = some (0, 5)) rfl rfl rfl hl.1 (Nat.le_of_ble_eq_true rfl) dX10_thicks_10 ⟨Nat.zero_le _, Nat.zero_le _⟩ (fun H locs hw => ?_)
  obtain ⟨r1, e2, h⟩ := bnd_some h
  refine wcallV1 (As := [.int p1, .int (f_X5_hasPiece 14 p2 M)]) (rest := []) C hw (c_X10_refusalOfSeen hW  e2) vlX10_314 ⟨Nat.le_of_ble_eq_true rfl, Nat.le_of_ble_eq_true rfl⟩ (rfl : _ = some (0, 10)) rfl rfl rfl hl.1 (Nat.le_of_ble_eq_true rfl) dX10_thicks_13 ⟨Nat.zero_le _, Nat.zero_le _⟩ (fun H locs hw => ?_)
  refine lv_istore_n (lv' := [(3, .int r1), (0, .ref (P.2.2.1 0)), (1, .int p1), (2, .int p2)]) hx hb dX10_thicks_16 rfl hl (by decide) rfl (fun ls hl => ?_)
  refine lv_iload_n hx hb dX10_thicks_17 rfl (lv_at hl 0 rfl) ?_
  refine lv_if_eq (tgt := 25) hx hb dX10_thicks_18 (by decide) (fun c3 => ?_) (fun c3 => ?_)
  · replace h := (if_pos c3).symm.trans h
    refine lv_aload_n hx hb dX10_thicks_25 rfl (lv_at hl 1 rfl) ?_
    refine wgetR (t := 33) C hw flX10_65 (rfl : _ = some (0, 10)) rfl dX10_thicks_26 ?_
    refine lv_aload_n hx hb dX10_thicks_29 rfl (lv_at hl 1 rfl) ?_
    refine lv_iload_n hx hb dX10_thicks_30 rfl (lv_at hl 2 rfl) ?_
    refine wcallV1 (As := [.int p1]) (rest := [.ref (P.2.2.1 33)]) C hw (c_X10_rowOf hW  rfl) vlX10_318 ⟨Nat.le_of_ble_eq_true rfl, Nat.le_of_ble_eq_true rfl⟩ (rfl : _ = some (0, 10)) rfl rfl rfl hl.1 (Nat.le_of_ble_eq_true rfl) dX10_thicks_31 ⟨Nat.zero_le _, Nat.zero_le _⟩ (fun H locs hw => ?_)
    cases e5 : f_X10_rowOf p1 M with
    | none =>
      replace h := optc_none e5 h
      refine lv_iload_n hx hb dX10_thicks_34 rfl (lv_at hl 3 rfl) ?_
      cases h
    | some k4 =>
      replace h := optc_some e5 h
      refine lv_iload_n hx hb dX10_thicks_34 rfl (lv_at hl 3 rfl) ?_
      obtain ⟨r6, M8, e7, h⟩ := bnd2_some h
      refine wcallV1 (As := [.ref (P.2.2.1 k4), .int p2]) (rest := []) C hw (c_X9_thicksSeen hW (rowOf_ho e5) e7) vlX10_332 ⟨Nat.le_of_ble_eq_true rfl, Nat.le_of_ble_eq_true rfl⟩ (rfl : _ = some (0, 9)) rfl rfl rfl hl.1 (Nat.le_of_ble_eq_true rfl) dX10_thicks_35 ⟨Nat.zero_le _, Nat.zero_le _⟩ (fun H locs hw => ?_)
      exact wretI_W C hw h dX10_thicks_38
  · replace h := (if_neg c3).symm.trans h
    refine lv_iload_n hx hb dX10_thicks_21 rfl (lv_at hl 0 rfl) ?_
    refine lv_goto (tgt := 38) hx hb dX10_thicks_22 (by decide) ?_
    exact wretI_W C hw h dX10_thicks_38
set_option maxRecDepth 100000 in
set_option maxHeartbeats 4000000 in
theorem c_X10_laws {l : Launch} {P : Wp} {E : State → Heap → Prop} (hW : Wok shC P E) {p1 : Int32} {M : Mem} {r : Int32} {M' : Mem} (h : f_X10_laws p1 M = some (r, M')) : CT l shC P E yX10_laws bX10_laws 3 ((some .int)) 6 162 [.ref (P.2.2.1 0), .int p1] (some (.int r)) M M' := by
  refine ct_of hW (by decide) (Nat.le_of_ble_eq_true rfl) (fun p e s m args below meth c C ls hl hw => ?_)
  have hx := C.1
  have hb := C.2.1
  replace hl : lv_has ls 3 [(0, .ref (P.2.2.1 0)), (1, .int p1)] := hl
  refine lv_aload_n hx hb dX10_laws_0 rfl (lv_at hl 0 rfl) ?_
  refine lv_iload_n hx hb dX10_laws_1 rfl (lv_at hl 1 rfl) ?_
  refine lv_aload_n hx hb dX10_laws_2 rfl (lv_at hl 0 rfl) ?_
  refine wgetR (t := 13) C hw flX10_49 (rfl : _ = some (0, 10)) rfl dX10_laws_3 ?_
  refine wgetR (t := 14) C hw flX10_106 (rfl : _ = some (0, 1)) rfl dX10_laws_6 ?_
  refine wcallV1 (As := []) (rest := [.int p1, .ref (P.2.2.1 0)]) C hw (c_X5_isTold hW (rfl : _ = some (0, 5)) rfl) vlX10_202 ⟨Nat.le_of_ble_eq_true rfl, Nat.le_of_ble_eq_true rfl⟩ (rfl : _ = some (0, 5)) rfl rfl rfl hl.1 (Nat.le_of_ble_eq_true rfl) dX10_laws_9 ⟨Nat.zero_le _, Nat.zero_le _⟩ (fun H locs hw => ?_)
  obtain ⟨r1, e2, h⟩ := bnd_some h
  refine wcallV1 (As := [.int p1, .int (f_X5_isTold 14 M)]) (rest := []) C hw (c_X10_refusalOfSeen hW  e2) vlX10_314 ⟨Nat.le_of_ble_eq_true rfl, Nat.le_of_ble_eq_true rfl⟩ (rfl : _ = some (0, 10)) rfl rfl rfl hl.1 (Nat.le_of_ble_eq_true rfl) dX10_laws_12 ⟨Nat.zero_le _, Nat.zero_le _⟩ (fun H locs hw => ?_)
  refine lv_istore_n (lv' := [(2, .int r1), (0, .ref (P.2.2.1 0)), (1, .int p1)]) hx hb dX10_laws_15 rfl hl (by decide) rfl (fun ls hl => ?_)
  refine lv_iload_n hx hb dX10_laws_16 rfl (lv_at hl 0 rfl) ?_
  refine lv_if_eq (tgt := 24) hx hb dX10_laws_17 (by decide) (fun c3 => ?_) (fun c3 => ?_)
  · replace h := (if_pos c3).symm.trans h
    refine lv_aload_n hx hb dX10_laws_24 rfl (lv_at hl 1 rfl) ?_
    refine wgetR (t := 33) C hw flX10_65 (rfl : _ = some (0, 10)) rfl dX10_laws_25 ?_
    refine lv_aload_n hx hb dX10_laws_28 rfl (lv_at hl 1 rfl) ?_
    refine lv_iload_n hx hb dX10_laws_29 rfl (lv_at hl 2 rfl) ?_
    refine wcallV1 (As := [.int p1]) (rest := [.ref (P.2.2.1 33)]) C hw (c_X10_rowOf hW  rfl) vlX10_318 ⟨Nat.le_of_ble_eq_true rfl, Nat.le_of_ble_eq_true rfl⟩ (rfl : _ = some (0, 10)) rfl rfl rfl hl.1 (Nat.le_of_ble_eq_true rfl) dX10_laws_30 ⟨Nat.zero_le _, Nat.zero_le _⟩ (fun H locs hw => ?_)
    cases e5 : f_X10_rowOf p1 M with
    | none =>
      replace h := optc_none e5 h
      cases h
    | some k4 =>
      replace h := optc_some e5 h
      obtain ⟨r6, M8, e7, h⟩ := bnd2_some h
      refine wcallV1 (As := [.ref (P.2.2.1 k4)]) (rest := []) C hw (c_X9_lawsSeen hW (rowOf_ho e5) e7) vlX10_335 ⟨Nat.le_of_ble_eq_true rfl, Nat.le_of_ble_eq_true rfl⟩ (rfl : _ = some (0, 9)) rfl rfl rfl hl.1 (Nat.le_of_ble_eq_true rfl) dX10_laws_33 ⟨Nat.zero_le _, Nat.zero_le _⟩ (fun H locs hw => ?_)
      exact wretI_W C hw h dX10_laws_36
  · replace h := (if_neg c3).symm.trans h
    refine lv_iload_n hx hb dX10_laws_20 rfl (lv_at hl 0 rfl) ?_
    refine lv_goto (tgt := 36) hx hb dX10_laws_21 (by decide) ?_
    exact wretI_W C hw h dX10_laws_36
set_option maxRecDepth 100000 in
set_option maxHeartbeats 4000000 in
theorem c_X10_by {l : Launch} {P : Wp} {E : State → Heap → Prop} (hW : Wok shC P E) {p1 : Int32} {M : Mem} {r : Int32} {M' : Mem} (h : f_X10_by p1 M = some (r, M')) : CT l shC P E yX10_by bX10_by 2 ((some .int)) 6 159 [.ref (P.2.2.1 0), .int p1] (some (.int r)) M M' := by
  refine ct_of hW (by decide) (Nat.le_of_ble_eq_true rfl) (fun p e s m args below meth c C ls hl hw => ?_)
  have hx := C.1
  have hb := C.2.1
  replace hl : lv_has ls 2 [(0, .ref (P.2.2.1 0)), (1, .int p1)] := hl
  refine lv_aload_n hx hb dX10_by_0 rfl (lv_at hl 0 rfl) ?_
  refine wgetR (t := 13) C hw flX10_49 (rfl : _ = some (0, 10)) rfl dX10_by_1 ?_
  refine wgetR (t := 14) C hw flX10_106 (rfl : _ = some (0, 1)) rfl dX10_by_4 ?_
  refine wcallV1 (As := []) (rest := []) C hw (c_X5_isTold hW (rfl : _ = some (0, 5)) rfl) vlX10_202 ⟨Nat.le_of_ble_eq_true rfl, Nat.le_of_ble_eq_true rfl⟩ (rfl : _ = some (0, 5)) rfl rfl rfl hl.1 (Nat.le_of_ble_eq_true rfl) dX10_by_7 ⟨Nat.zero_le _, Nat.zero_le _⟩ (fun H locs hw => ?_)
  refine lv_if_eq (tgt := 22) hx hb dX10_by_10 (by decide) (fun c1 => ?_) (fun c1 => ?_)
  · replace h := (if_pos c1).symm.trans h
    refine lv_bipush (v := (-2)) hx hb dX10_by_22 (by decide) ?_
    exact wretI_W C hw h dX10_by_24
  · replace h := (if_neg c1).symm.trans h
    refine lv_iload_n hx hb dX10_by_13 rfl (lv_at hl 1 rfl) ?_
    refine lv_if_lt (tgt := 22) hx hb dX10_by_14 (by decide) (fun c2 => ?_) (fun c2 => ?_)
    · replace h := (if_pos c2).symm.trans h
      refine lv_bipush (v := (-2)) hx hb dX10_by_22 (by decide) ?_
      exact wretI_W C hw h dX10_by_24
    · replace h := (if_neg c2).symm.trans h
      refine lv_iload_n hx hb dX10_by_17 rfl (lv_at hl 1 rfl) ?_
      refine lv_iconst (v := 4) hx hb dX10_by_18 (by decide) ?_
      refine lv_icmp_lt (tgt := 25) hx hb dX10_by_19 (by decide) (fun c3 => ?_) (fun c3 => ?_)
      · replace h := (if_pos c3).symm.trans h
        refine lv_aload_n hx hb dX10_by_25 rfl (lv_at hl 0 rfl) ?_
        refine wgetR (t := 33) C hw flX10_65 (rfl : _ = some (0, 10)) rfl dX10_by_26 ?_
        refine lv_iload_n hx hb dX10_by_29 rfl (lv_at hl 1 rfl) ?_
        obtain ⟨r4, M6, e5, h⟩ := bnd2_some h
        refine wcallV1 (As := [.int p1]) (rest := []) C hw (c_X9_soundBitsByLaw hW  e5) vlX10_346 ⟨Nat.le_of_ble_eq_true rfl, Nat.le_of_ble_eq_true rfl⟩ (rfl : _ = some (0, 9)) rfl rfl rfl hl.1 (Nat.le_of_ble_eq_true rfl) dX10_by_30 ⟨Nat.zero_le _, Nat.zero_le _⟩ (fun H locs hw => ?_)
        exact wretI_W C hw h dX10_by_33
      · replace h := (if_neg c3).symm.trans h
        refine lv_bipush (v := (-2)) hx hb dX10_by_22 (by decide) ?_
        exact wretI_W C hw h dX10_by_24
set_option maxRecDepth 100000 in
set_option maxHeartbeats 4000000 in
theorem c_X10_law {l : Launch} {P : Wp} {E : State → Heap → Prop} (hW : Wok shC P E) {M : Mem} {r : Int32} {M' : Mem} (h : f_X10_law M = some (r, M')) : CT l shC P E yX10_law bX10_law 1 ((some .int)) 7 183 [.ref (P.2.2.1 0)] (some (.int r)) M M' := by
  refine ct_of hW (by decide) (Nat.le_of_ble_eq_true rfl) (fun p e s m args below meth c C ls hl hw => ?_)
  have hx := C.1
  have hb := C.2.1
  replace hl : lv_has ls 1 [(0, .ref (P.2.2.1 0))] := hl
  refine lv_aload_n hx hb dX10_law_0 rfl (lv_at hl 0 rfl) ?_
  refine wgetR (t := 13) C hw flX10_49 (rfl : _ = some (0, 10)) rfl dX10_law_1 ?_
  refine wgetR (t := 14) C hw flX10_106 (rfl : _ = some (0, 1)) rfl dX10_law_4 ?_
  refine wcallV1 (As := []) (rest := []) C hw (c_X5_isTold hW (rfl : _ = some (0, 5)) rfl) vlX10_202 ⟨Nat.le_of_ble_eq_true rfl, Nat.le_of_ble_eq_true rfl⟩ (rfl : _ = some (0, 5)) rfl rfl rfl hl.1 (Nat.le_of_ble_eq_true rfl) dX10_law_7 ⟨Nat.zero_le _, Nat.zero_le _⟩ (fun H locs hw => ?_)
  refine lv_if_eq (tgt := 23) hx hb dX10_law_10 (by decide) (fun c1 => ?_) (fun c1 => ?_)
  · replace h := (if_pos c1).symm.trans h
    refine lv_bipush (v := (-2)) hx hb dX10_law_23 (by decide) ?_
    exact wretI_W C hw h dX10_law_25
  · replace h := (if_neg c1).symm.trans h
    refine lv_aload_n hx hb dX10_law_13 rfl (lv_at hl 0 rfl) ?_
    refine wgetR (t := 33) C hw flX10_65 (rfl : _ = some (0, 10)) rfl dX10_law_14 ?_
    obtain ⟨r2, M4, e3, h⟩ := bnd2_some h
    refine wcallV1 (As := []) (rest := []) C hw (c_X9_bestLaw hW  e3) vlX10_349 ⟨Nat.le_of_ble_eq_true rfl, Nat.le_of_ble_eq_true rfl⟩ (rfl : _ = some (0, 9)) rfl rfl rfl hl.1 (Nat.le_of_ble_eq_true rfl) dX10_law_17 ⟨Nat.zero_le _, Nat.zero_le _⟩ (fun H locs hw => ?_)
    refine lv_goto (tgt := 25) hx hb dX10_law_20 (by decide) ?_
    exact wretI_W C hw h dX10_law_25
set_option maxRecDepth 100000 in
set_option maxHeartbeats 4000000 in
theorem c_X10_worth {l : Launch} {P : Wp} {E : State → Heap → Prop} (hW : Wok shC P E) {p1 : Int32} {M : Mem} {r : Int32} {M' : Mem} (h : f_X10_worth p1 M = some (r, M')) : CT l shC P E yX10_worth bX10_worth 2 ((some .int)) 6 160 [.ref (P.2.2.1 0), .int p1] (some (.int r)) M M' := by
  refine ct_of hW (by decide) (Nat.le_of_ble_eq_true rfl) (fun p e s m args below meth c C ls hl hw => ?_)
  have hx := C.1
  have hb := C.2.1
  replace hl : lv_has ls 2 [(0, .ref (P.2.2.1 0)), (1, .int p1)] := hl
  refine lv_aload_n hx hb dX10_worth_0 rfl (lv_at hl 0 rfl) ?_
  refine wgetR (t := 13) C hw flX10_49 (rfl : _ = some (0, 10)) rfl dX10_worth_1 ?_
  refine wgetR (t := 14) C hw flX10_106 (rfl : _ = some (0, 1)) rfl dX10_worth_4 ?_
  refine wcallV1 (As := []) (rest := []) C hw (c_X5_isTold hW (rfl : _ = some (0, 5)) rfl) vlX10_202 ⟨Nat.le_of_ble_eq_true rfl, Nat.le_of_ble_eq_true rfl⟩ (rfl : _ = some (0, 5)) rfl rfl rfl hl.1 (Nat.le_of_ble_eq_true rfl) dX10_worth_7 ⟨Nat.zero_le _, Nat.zero_le _⟩ (fun H locs hw => ?_)
  refine lv_if_eq (tgt := 33) hx hb dX10_worth_10 (by decide) (fun c1 => ?_) (fun c1 => ?_)
  · replace h := (if_pos c1).symm.trans h
    refine lv_bipush (v := (-2)) hx hb dX10_worth_33 (by decide) ?_
    exact wretI_W C hw h dX10_worth_35
  · replace h := (if_neg c1).symm.trans h
    refine lv_iload_n hx hb dX10_worth_13 rfl (lv_at hl 1 rfl) ?_
    refine lv_if_lt (tgt := 33) hx hb dX10_worth_14 (by decide) (fun c2 => ?_) (fun c2 => ?_)
    · replace h := (if_pos c2).symm.trans h
      refine lv_bipush (v := (-2)) hx hb dX10_worth_33 (by decide) ?_
      exact wretI_W C hw h dX10_worth_35
    · replace h := (if_neg c2).symm.trans h
      refine lv_iload_n hx hb dX10_worth_17 rfl (lv_at hl 1 rfl) ?_
      refine lv_iconst (v := 1) hx hb dX10_worth_18 (by decide) ?_
      refine lv_aload_n hx hb dX10_worth_19 rfl (lv_at hl 0 rfl) ?_
      refine wgetR (t := 13) C hw flX10_49 (rfl : _ = some (0, 10)) rfl dX10_worth_20 ?_
      refine wgetR (t := 14) C hw flX10_106 (rfl : _ = some (0, 1)) rfl dX10_worth_23 ?_
      refine wgetI C hw flX10_237 (rfl : _ = some (0, 5)) dX10_worth_26 ?_
      refine lv_ishl hx hb dX10_worth_29 ?_
      refine lv_icmp_lt (tgt := 36) hx hb dX10_worth_30 (by decide) (fun c3 => ?_) (fun c3 => ?_)
      · replace h := (if_pos c3).symm.trans h
        refine lv_aload_n hx hb dX10_worth_36 rfl (lv_at hl 0 rfl) ?_
        refine wgetR (t := 33) C hw flX10_65 (rfl : _ = some (0, 10)) rfl dX10_worth_37 ?_
        refine lv_iload_n hx hb dX10_worth_40 rfl (lv_at hl 1 rfl) ?_
        obtain ⟨r4, M6, e5, h⟩ := bnd2_some h
        refine wcallV1 (As := [.int p1]) (rest := []) C hw (c_X9_worthOf hW  e5) vlX10_352 ⟨Nat.le_of_ble_eq_true rfl, Nat.le_of_ble_eq_true rfl⟩ (rfl : _ = some (0, 9)) rfl rfl rfl hl.1 (Nat.le_of_ble_eq_true rfl) dX10_worth_41 ⟨Nat.zero_le _, Nat.zero_le _⟩ (fun H locs hw => ?_)
        exact wretI_W C hw h dX10_worth_44
      · replace h := (if_neg c3).symm.trans h
        refine lv_bipush (v := (-2)) hx hb dX10_worth_33 (by decide) ?_
        exact wretI_W C hw h dX10_worth_35
theorem z_X10_isNoPart {p0 : Int32} {M : Mem} : f_X10_isNoPart p0 M = 0 ∨ f_X10_isNoPart p0 M = 1 := by
  unfold f_X10_isNoPart
  repeat' split
  all_goals first | exact Or.inl rfl | exact Or.inr rfl
set_option maxRecDepth 100000 in
set_option maxHeartbeats 4000000 in
theorem c_X10_isNoPart {l : Launch} {P : Wp} {E : State → Heap → Prop} (hW : Wok shC P E) {p0 : Int32} {M : Mem} {r : Int32} (h : f_X10_isNoPart p0 M = r) : CT l shC P E yX10_isNoPart bX10_isNoPart 1 ((some .boolean)) 0 0 [.int p0] (some (.int r)) M M := by
  refine ct_of hW (by decide) (Nat.le_of_ble_eq_true rfl) (fun p e s m args below meth c C ls hl hw => ?_)
  have hx := C.1
  have hb := C.2.1
  replace hl : lv_has ls 1 [(0, .int p0)] := hl
  refine lv_iload_n hx hb dX10_isNoPart_0 rfl (lv_at hl 0 rfl) ?_
  refine lv_if_eq (tgt := 13) hx hb dX10_isNoPart_1 (by decide) (fun c1 => ?_) (fun c1 => ?_)
  · replace h := (if_pos c1).symm.trans h
    refine lv_iconst (v := 0) hx hb dX10_isNoPart_13 (by decide) ?_
    exact wretZ_T C hw (Or.inl rfl) h dX10_isNoPart_14
  · replace h := (if_neg c1).symm.trans h
    refine lv_iload_n hx hb dX10_isNoPart_4 rfl (lv_at hl 0 rfl) ?_
    refine lv_iconst (v := 1) hx hb dX10_isNoPart_5 (by decide) ?_
    refine lv_icmp_eq (tgt := 13) hx hb dX10_isNoPart_6 (by decide) (fun c2 => ?_) (fun c2 => ?_)
    · replace h := (if_pos c2).symm.trans h
      refine lv_iconst (v := 0) hx hb dX10_isNoPart_13 (by decide) ?_
      exact wretZ_T C hw (Or.inl rfl) h dX10_isNoPart_14
    · replace h := (if_neg c2).symm.trans h
      refine lv_iconst (v := 1) hx hb dX10_isNoPart_9 (by decide) ?_
      refine lv_goto (tgt := 14) hx hb dX10_isNoPart_10 (by decide) ?_
      exact wretZ_T C hw (Or.inr rfl) h dX10_isNoPart_14
set_option maxRecDepth 100000 in
set_option maxHeartbeats 4000000 in
theorem c_X10_share {l : Launch} {P : Wp} {E : State → Heap → Prop} (hW : Wok shC P E) {p1 : Int32} {p2 : Int32} {M : Mem} {r : Int32} {M' : Mem} (h : f_X10_share p1 p2 M = some (r, M')) : CT l shC P E yX10_share bX10_share 3 ((some .int)) 7 190 [.ref (P.2.2.1 0), .int p1, .int p2] (some (.int r)) M M' := by
  refine ct_of hW (by decide) (Nat.le_of_ble_eq_true rfl) (fun p e s m args below meth c C ls hl hw => ?_)
  have hx := C.1
  have hb := C.2.1
  replace hl : lv_has ls 3 [(0, .ref (P.2.2.1 0)), (1, .int p1), (2, .int p2)] := hl
  refine lv_aload_n hx hb dX10_share_0 rfl (lv_at hl 0 rfl) ?_
  refine wgetR (t := 13) C hw flX10_49 (rfl : _ = some (0, 10)) rfl dX10_share_1 ?_
  refine wgetR (t := 14) C hw flX10_106 (rfl : _ = some (0, 1)) rfl dX10_share_4 ?_
  refine lv_iload_n hx hb dX10_share_7 rfl (lv_at hl 1 rfl) ?_
  refine wcallV1 (As := [.int p1]) (rest := []) C hw (c_X5_hasZone hW (rfl : _ = some (0, 5)) rfl) vlX10_125 ⟨Nat.le_of_ble_eq_true rfl, Nat.le_of_ble_eq_true rfl⟩ (rfl : _ = some (0, 5)) rfl rfl rfl hl.1 (Nat.le_of_ble_eq_true rfl) dX10_share_8 ⟨Nat.zero_le _, Nat.zero_le _⟩ (fun H locs hw => ?_)
  refine lv_if_eq (tgt := 21) hx hb dX10_share_11 (by decide) (fun c1 => ?_) (fun c1 => ?_)
  · replace h := (if_pos c1).symm.trans h
    refine lv_ldcw hx hb C.2.2.2.1 (C.2.2.2.2.1 _ (List.mem_cons_of_mem _ (gm kcX10_358 rfl))) dX10_share_21 ?_
    exact wretI_W C hw h dX10_share_24
  · replace h := (if_neg c1).symm.trans h
    refine lv_iload_n hx hb dX10_share_14 rfl (lv_at hl 2 rfl) ?_
    refine wcallS1 (As := [.int p2]) (rest := []) C hw (c_X10_isNoPart hW  rfl) slX10_355 ⟨Nat.le_of_ble_eq_true rfl, Nat.le_of_ble_eq_true rfl⟩ rfl rfl hl.1 (Nat.le_of_ble_eq_true rfl) dX10_share_15 ⟨Nat.zero_le _, Nat.zero_le _⟩ (fun H locs hw => ?_)
    refine lv_if_eq (tgt := 25) hx hb dX10_share_18 (by decide) (fun c2 => ?_) (fun c2 => ?_)
    · replace h := (if_pos c2).symm.trans h
      refine lv_aload_n hx hb dX10_share_25 rfl (lv_at hl 0 rfl) ?_
      refine wgetR (t := 33) C hw flX10_65 (rfl : _ = some (0, 10)) rfl dX10_share_26 ?_
      refine lv_iload_n hx hb dX10_share_29 rfl (lv_at hl 1 rfl) ?_
      obtain ⟨M5, e4, h⟩ := bnd_some h
      refine wcallV1 (As := [.int p1]) (rest := []) C hw (c_X9_shareOf hW  e4) vlX10_359 ⟨Nat.le_of_ble_eq_true rfl, Nat.le_of_ble_eq_true rfl⟩ (rfl : _ = some (0, 9)) rfl rfl rfl hl.1 (Nat.le_of_ble_eq_true rfl) dX10_share_30 ⟨Nat.zero_le _, Nat.zero_le _⟩ (fun H locs hw => ?_)
      refine lv_iload_n hx hb dX10_share_33 rfl (lv_at hl 2 rfl) ?_
      refine wcallV1 (As := [.int p2]) (rest := []) C hw (c_X3_part hW (rfl : _ = some (0, 3)) rfl) vlX10_363 ⟨Nat.le_of_ble_eq_true rfl, Nat.le_of_ble_eq_true rfl⟩ (rfl : _ = some (0, 3)) rfl rfl rfl hl.1 (Nat.le_of_ble_eq_true rfl) dX10_share_34 ⟨Nat.zero_le _, Nat.zero_le _⟩ (fun H locs hw => ?_)
      refine lv_l2i hx hb dX10_share_37 rfl ?_
      exact wretI_W C hw h dX10_share_38
    · replace h := (if_neg c2).symm.trans h
      refine lv_ldcw hx hb C.2.2.2.1 (C.2.2.2.2.1 _ (List.mem_cons_of_mem _ (gm kcX10_358 rfl))) dX10_share_21 ?_
      exact wretI_W C hw h dX10_share_24
theorem z_X10_isPairOfZones {p1 : Int32} {p2 : Int32} {M : Mem} : f_X10_isPairOfZones p1 p2 M = 0 ∨ f_X10_isPairOfZones p1 p2 M = 1 := by
  unfold f_X10_isPairOfZones
  repeat' split
  all_goals first | exact Or.inl rfl | exact Or.inr rfl
set_option maxRecDepth 100000 in
set_option maxHeartbeats 4000000 in
theorem c_X10_isPairOfZones {l : Launch} {P : Wp} {E : State → Heap → Prop} (hW : Wok shC P E) {p1 : Int32} {p2 : Int32} {M : Mem} {r : Int32} (h : f_X10_isPairOfZones p1 p2 M = r) : CT l shC P E yX10_isPairOfZones bX10_isPairOfZones 3 ((some .boolean)) 1 21 [.ref (P.2.2.1 0), .int p1, .int p2] (some (.int r)) M M := by
  refine ct_of hW (by decide) (Nat.le_of_ble_eq_true rfl) (fun p e s m args below meth c C ls hl hw => ?_)
  have hx := C.1
  have hb := C.2.1
  replace hl : lv_has ls 3 [(0, .ref (P.2.2.1 0)), (1, .int p1), (2, .int p2)] := hl
  refine lv_aload_n hx hb dX10_isPairOfZones_0 rfl (lv_at hl 0 rfl) ?_
  refine wgetR (t := 13) C hw flX10_49 (rfl : _ = some (0, 10)) rfl dX10_isPairOfZones_1 ?_
  refine wgetR (t := 14) C hw flX10_106 (rfl : _ = some (0, 1)) rfl dX10_isPairOfZones_4 ?_
  refine lv_iload_n hx hb dX10_isPairOfZones_7 rfl (lv_at hl 1 rfl) ?_
  refine wcallV1 (As := [.int p1]) (rest := []) C hw (c_X5_hasZone hW (rfl : _ = some (0, 5)) rfl) vlX10_125 ⟨Nat.le_of_ble_eq_true rfl, Nat.le_of_ble_eq_true rfl⟩ (rfl : _ = some (0, 5)) rfl rfl rfl hl.1 (Nat.le_of_ble_eq_true rfl) dX10_isPairOfZones_8 ⟨Nat.zero_le _, Nat.zero_le _⟩ (fun H locs hw => ?_)
  refine lv_if_eq (tgt := 37) hx hb dX10_isPairOfZones_11 (by decide) (fun c1 => ?_) (fun c1 => ?_)
  · replace h := (if_pos c1).symm.trans h
    refine lv_iconst (v := 0) hx hb dX10_isPairOfZones_37 (by decide) ?_
    exact wretZ_T C hw (Or.inl rfl) h dX10_isPairOfZones_38
  · replace h := (if_neg c1).symm.trans h
    refine lv_aload_n hx hb dX10_isPairOfZones_14 rfl (lv_at hl 0 rfl) ?_
    refine wgetR (t := 13) C hw flX10_49 (rfl : _ = some (0, 10)) rfl dX10_isPairOfZones_15 ?_
    refine wgetR (t := 14) C hw flX10_106 (rfl : _ = some (0, 1)) rfl dX10_isPairOfZones_18 ?_
    refine lv_iload_n hx hb dX10_isPairOfZones_21 rfl (lv_at hl 2 rfl) ?_
    refine wcallV1 (As := [.int p2]) (rest := []) C hw (c_X5_hasZone hW (rfl : _ = some (0, 5)) rfl) vlX10_125 ⟨Nat.le_of_ble_eq_true rfl, Nat.le_of_ble_eq_true rfl⟩ (rfl : _ = some (0, 5)) rfl rfl rfl hl.1 (Nat.le_of_ble_eq_true rfl) dX10_isPairOfZones_22 ⟨Nat.zero_le _, Nat.zero_le _⟩ (fun H locs hw => ?_)
    refine lv_if_eq (tgt := 37) hx hb dX10_isPairOfZones_25 (by decide) (fun c2 => ?_) (fun c2 => ?_)
    · replace h := (if_pos c2).symm.trans h
      refine lv_iconst (v := 0) hx hb dX10_isPairOfZones_37 (by decide) ?_
      exact wretZ_T C hw (Or.inl rfl) h dX10_isPairOfZones_38
    · replace h := (if_neg c2).symm.trans h
      refine lv_iload_n hx hb dX10_isPairOfZones_28 rfl (lv_at hl 1 rfl) ?_
      refine lv_iload_n hx hb dX10_isPairOfZones_29 rfl (lv_at hl 2 rfl) ?_
      refine lv_icmp_eq (tgt := 37) hx hb dX10_isPairOfZones_30 (by decide) (fun c3 => ?_) (fun c3 => ?_)
      · replace h := (if_pos c3).symm.trans h
        refine lv_iconst (v := 0) hx hb dX10_isPairOfZones_37 (by decide) ?_
        exact wretZ_T C hw (Or.inl rfl) h dX10_isPairOfZones_38
      · replace h := (if_neg c3).symm.trans h
        refine lv_iconst (v := 1) hx hb dX10_isPairOfZones_33 (by decide) ?_
        refine lv_goto (tgt := 38) hx hb dX10_isPairOfZones_34 (by decide) ?_
        exact wretZ_T C hw (Or.inr rfl) h dX10_isPairOfZones_38
set_option maxRecDepth 100000 in
set_option maxHeartbeats 4000000 in
theorem c_X10_rests {l : Launch} {P : Wp} {E : State → Heap → Prop} (hW : Wok shC P E) {p1 : Int32} {p2 : Int32} {M : Mem} {r : Int32} {M' : Mem} (h : f_X10_rests p1 p2 M = some (r, M')) : CT l shC P E yX10_rests bX10_rests 3 ((some .int)) 7 189 [.ref (P.2.2.1 0), .int p1, .int p2] (some (.int r)) M M' := by
  refine ct_of hW (by decide) (Nat.le_of_ble_eq_true rfl) (fun p e s m args below meth c C ls hl hw => ?_)
  have hx := C.1
  have hb := C.2.1
  replace hl : lv_has ls 3 [(0, .ref (P.2.2.1 0)), (1, .int p1), (2, .int p2)] := hl
  refine lv_aload_n hx hb dX10_rests_0 rfl (lv_at hl 0 rfl) ?_
  refine lv_iload_n hx hb dX10_rests_1 rfl (lv_at hl 1 rfl) ?_
  refine lv_iload_n hx hb dX10_rests_2 rfl (lv_at hl 2 rfl) ?_
  refine wcallV1 (As := [.int p1, .int p2]) (rest := []) C hw (c_X10_isPairOfZones hW  rfl) vlX10_369 ⟨Nat.le_of_ble_eq_true rfl, Nat.le_of_ble_eq_true rfl⟩ (rfl : _ = some (0, 10)) rfl rfl rfl hl.1 (Nat.le_of_ble_eq_true rfl) dX10_rests_3 ⟨Nat.zero_le _, Nat.zero_le _⟩ (fun H locs hw => ?_)
  refine lv_if_eq (tgt := 21) hx hb dX10_rests_6 (by decide) (fun c1 => ?_) (fun c1 => ?_)
  · replace h := (if_pos c1).symm.trans h
    refine lv_bipush (v := (-2)) hx hb dX10_rests_21 (by decide) ?_
    exact wretI_W C hw h dX10_rests_23
  · replace h := (if_neg c1).symm.trans h
    refine lv_aload_n hx hb dX10_rests_9 rfl (lv_at hl 0 rfl) ?_
    refine wgetR (t := 33) C hw flX10_65 (rfl : _ = some (0, 10)) rfl dX10_rests_10 ?_
    refine lv_iload_n hx hb dX10_rests_13 rfl (lv_at hl 1 rfl) ?_
    refine lv_iload_n hx hb dX10_rests_14 rfl (lv_at hl 2 rfl) ?_
    obtain ⟨r2, M4, e3, h⟩ := bnd2_some h
    refine wcallV1 (As := [.int p1, .int p2]) (rest := []) C hw (c_X9_restingChoices hW  e3) vlX10_373 ⟨Nat.le_of_ble_eq_true rfl, Nat.le_of_ble_eq_true rfl⟩ (rfl : _ = some (0, 9)) rfl rfl rfl hl.1 (Nat.le_of_ble_eq_true rfl) dX10_rests_15 ⟨Nat.zero_le _, Nat.zero_le _⟩ (fun H locs hw => ?_)
    refine lv_goto (tgt := 23) hx hb dX10_rests_18 (by decide) ?_
    exact wretI_W C hw h dX10_rests_23
set_option maxRecDepth 100000 in
set_option maxHeartbeats 4000000 in
theorem c_X10_gets {l : Launch} {P : Wp} {E : State → Heap → Prop} (hW : Wok shC P E) {p1 : Int32} {p2 : Int32} {p3 : Int32} {p4 : Int32} {p5 : Int32} {M : Mem} {r : Int32} {M' : Mem} (h : f_X10_gets p1 p2 p3 p4 p5 M = some (r, M')) : CT l shC P E yX10_gets bX10_gets 6 ((some .int)) 6 163 [.ref (P.2.2.1 0), .int p1, .int p2, .int p3, .int p4, .int p5] (some (.int r)) M M' := by
  refine ct_of hW (by decide) (Nat.le_of_ble_eq_true rfl) (fun p e s m args below meth c C ls hl hw => ?_)
  have hx := C.1
  have hb := C.2.1
  replace hl : lv_has ls 6 [(0, .ref (P.2.2.1 0)), (1, .int p1), (2, .int p2), (3, .int p3), (4, .int p4), (5, .int p5)] := hl
  refine lv_aload_n hx hb dX10_gets_0 rfl (lv_at hl 0 rfl) ?_
  refine lv_iload_n hx hb dX10_gets_1 rfl (lv_at hl 1 rfl) ?_
  refine lv_iload_n hx hb dX10_gets_2 rfl (lv_at hl 2 rfl) ?_
  refine wcallV1 (As := [.int p1, .int p2]) (rest := []) C hw (c_X10_isPairOfZones hW  rfl) vlX10_369 ⟨Nat.le_of_ble_eq_true rfl, Nat.le_of_ble_eq_true rfl⟩ (rfl : _ = some (0, 10)) rfl rfl rfl hl.1 (Nat.le_of_ble_eq_true rfl) dX10_gets_3 ⟨Nat.zero_le _, Nat.zero_le _⟩ (fun H locs hw => ?_)
  refine lv_if_eq (tgt := 17) hx hb dX10_gets_6 (by decide) (fun c1 => ?_) (fun c1 => ?_)
  · replace h := (if_pos c1).symm.trans h
    refine lv_sipush (v := (-1000)) hx hb dX10_gets_17 (by decide) ?_
    exact wretI_W C hw h dX10_gets_20
  · replace h := (if_neg c1).symm.trans h
    refine lv_iload hx hb dX10_gets_9 (lv_at hl 5 rfl) ?_
    refine wcallS1 (As := [.int p5]) (rest := []) C hw (c_X10_isNoPart hW  rfl) slX10_355 ⟨Nat.le_of_ble_eq_true rfl, Nat.le_of_ble_eq_true rfl⟩ rfl rfl hl.1 (Nat.le_of_ble_eq_true rfl) dX10_gets_11 ⟨Nat.zero_le _, Nat.zero_le _⟩ (fun H locs hw => ?_)
    refine lv_if_eq (tgt := 21) hx hb dX10_gets_14 (by decide) (fun c2 => ?_) (fun c2 => ?_)
    · replace h := (if_pos c2).symm.trans h
      refine lv_iload_n hx hb dX10_gets_21 rfl (lv_at hl 3 rfl) ?_
      refine lv_if_lt (tgt := 41) hx hb dX10_gets_22 (by decide) (fun c3 => ?_) (fun c3 => ?_)
      · replace h := (if_pos c3).symm.trans h
        refine lv_sipush (v := (-1000)) hx hb dX10_gets_41 (by decide) ?_
        exact wretI_W C hw h dX10_gets_44
      · replace h := (if_neg c3).symm.trans h
        refine lv_iload_n hx hb dX10_gets_25 rfl (lv_at hl 3 rfl) ?_
        refine lv_iconst (v := 1) hx hb dX10_gets_26 (by decide) ?_
        refine lv_icmp_gt (tgt := 41) hx hb dX10_gets_27 (by decide) (fun c4 => ?_) (fun c4 => ?_)
        · replace h := (if_pos c4).symm.trans h
          refine lv_sipush (v := (-1000)) hx hb dX10_gets_41 (by decide) ?_
          exact wretI_W C hw h dX10_gets_44
        · replace h := (if_neg c4).symm.trans h
          refine lv_iload hx hb dX10_gets_30 (lv_at hl 4 rfl) ?_
          refine lv_if_lt (tgt := 41) hx hb dX10_gets_32 (by decide) (fun c5 => ?_) (fun c5 => ?_)
          · replace h := (if_pos c5).symm.trans h
            refine lv_sipush (v := (-1000)) hx hb dX10_gets_41 (by decide) ?_
            exact wretI_W C hw h dX10_gets_44
          · replace h := (if_neg c5).symm.trans h
            refine lv_iload hx hb dX10_gets_35 (lv_at hl 4 rfl) ?_
            refine lv_iconst (v := 1) hx hb dX10_gets_37 (by decide) ?_
            refine lv_icmp_le (tgt := 45) hx hb dX10_gets_38 (by decide) (fun c6 => ?_) (fun c6 => ?_)
            · replace h := (if_pos c6).symm.trans h
              refine lv_aload_n hx hb dX10_gets_45 rfl (lv_at hl 0 rfl) ?_
              refine wgetR (t := 33) C hw flX10_65 (rfl : _ = some (0, 10)) rfl dX10_gets_46 ?_
              refine lv_iload_n hx hb dX10_gets_49 rfl (lv_at hl 1 rfl) ?_
              refine lv_iload_n hx hb dX10_gets_50 rfl (lv_at hl 2 rfl) ?_
              refine lv_iload_n hx hb dX10_gets_51 rfl (lv_at hl 3 rfl) ?_
              refine lv_iconst (v := 2) hx hb dX10_gets_52 (by decide) ?_
              refine lv_iload hx hb dX10_gets_53 (lv_at hl 4 rfl) ?_
              refine lv_imul hx hb dX10_gets_55 ?_
              refine lv_iadd hx hb dX10_gets_56 ?_
              refine lv_iload hx hb dX10_gets_57 (lv_at hl 5 rfl) ?_
              obtain ⟨r7, M9, e8, h⟩ := bnd2_some h
              refine wcallV1 (As := [.int p1, .int p2, .int (p3 + ((2 : Int32) * p4)), .int p5]) (rest := []) C hw (c_X9_gain hW  e8) vlX10_376 ⟨Nat.le_of_ble_eq_true rfl, Nat.le_of_ble_eq_true rfl⟩ (rfl : _ = some (0, 9)) rfl rfl rfl hl.1 (Nat.le_of_ble_eq_true rfl) dX10_gets_59 ⟨Nat.zero_le _, Nat.zero_le _⟩ (fun H locs hw => ?_)
              exact wretI_W C hw h dX10_gets_62
            · replace h := (if_neg c6).symm.trans h
              refine lv_sipush (v := (-1000)) hx hb dX10_gets_41 (by decide) ?_
              exact wretI_W C hw h dX10_gets_44
    · replace h := (if_neg c2).symm.trans h
      refine lv_sipush (v := (-1000)) hx hb dX10_gets_17 (by decide) ?_
      exact wretI_W C hw h dX10_gets_20
theorem z_X10_isChanceStep {p1 : Int32} {M : Mem} : f_X10_isChanceStep p1 M = 0 ∨ f_X10_isChanceStep p1 M = 1 := by
  unfold f_X10_isChanceStep
  repeat' split
  all_goals first | exact Or.inl rfl | exact Or.inr rfl
set_option maxRecDepth 100000 in
set_option maxHeartbeats 4000000 in
theorem c_X10_isChanceStep {l : Launch} {P : Wp} {E : State → Heap → Prop} (hW : Wok shC P E) {p1 : Int32} {M : Mem} {r : Int32} (h : f_X10_isChanceStep p1 M = r) : CT l shC P E yX10_isChanceStep bX10_isChanceStep 2 ((some .boolean)) 2 41 [.ref (P.2.2.1 0), .int p1] (some (.int r)) M M := by
  refine ct_of hW (by decide) (Nat.le_of_ble_eq_true rfl) (fun p e s m args below meth c C ls hl hw => ?_)
  have hx := C.1
  have hb := C.2.1
  replace hl : lv_has ls 2 [(0, .ref (P.2.2.1 0)), (1, .int p1)] := hl
  refine lv_iload_n hx hb dX10_isChanceStep_0 rfl (lv_at hl 1 rfl) ?_
  refine lv_iconst (v := 1) hx hb dX10_isChanceStep_1 (by decide) ?_
  refine lv_icmp_lt (tgt := 29) hx hb dX10_isChanceStep_2 (by decide) (fun c1 => ?_) (fun c1 => ?_)
  · replace h := (if_pos c1).symm.trans h
    refine lv_iconst (v := 0) hx hb dX10_isChanceStep_29 (by decide) ?_
    exact wretZ_T C hw (Or.inl rfl) h dX10_isChanceStep_30
  · replace h := (if_neg c1).symm.trans h
    refine lv_iload_n hx hb dX10_isChanceStep_5 rfl (lv_at hl 1 rfl) ?_
    refine lv_bipush (v := 8) hx hb dX10_isChanceStep_6 (by decide) ?_
    refine lv_icmp_gt (tgt := 29) hx hb dX10_isChanceStep_8 (by decide) (fun c2 => ?_) (fun c2 => ?_)
    · replace h := (if_pos c2).symm.trans h
      refine lv_iconst (v := 0) hx hb dX10_isChanceStep_29 (by decide) ?_
      exact wretZ_T C hw (Or.inl rfl) h dX10_isChanceStep_30
    · replace h := (if_neg c2).symm.trans h
      refine lv_aload_n hx hb dX10_isChanceStep_11 rfl (lv_at hl 0 rfl) ?_
      refine wgetR (t := 13) C hw flX10_49 (rfl : _ = some (0, 10)) rfl dX10_isChanceStep_12 ?_
      refine wgetR (t := 14) C hw flX10_106 (rfl : _ = some (0, 1)) rfl dX10_isChanceStep_15 ?_
      refine lv_iload_n hx hb dX10_isChanceStep_18 rfl (lv_at hl 1 rfl) ?_
      refine wcallV1 (As := [.int p1]) (rest := []) C hw (c_X5_hasStep hW (rfl : _ = some (0, 5)) rfl) vlX10_147 ⟨Nat.le_of_ble_eq_true rfl, Nat.le_of_ble_eq_true rfl⟩ (rfl : _ = some (0, 5)) rfl rfl rfl hl.1 (Nat.le_of_ble_eq_true rfl) dX10_isChanceStep_19 ⟨Nat.zero_le _, Nat.zero_le _⟩ (fun H locs hw => ?_)
      refine lv_if_eq (tgt := 29) hx hb dX10_isChanceStep_22 (by decide) (fun c3 => ?_) (fun c3 => ?_)
      · replace h := (if_pos c3).symm.trans h
        refine lv_iconst (v := 0) hx hb dX10_isChanceStep_29 (by decide) ?_
        exact wretZ_T C hw (Or.inl rfl) h dX10_isChanceStep_30
      · replace h := (if_neg c3).symm.trans h
        refine lv_iconst (v := 1) hx hb dX10_isChanceStep_25 (by decide) ?_
        refine lv_goto (tgt := 30) hx hb dX10_isChanceStep_26 (by decide) ?_
        exact wretZ_T C hw (Or.inr rfl) h dX10_isChanceStep_30
set_option maxRecDepth 100000 in
set_option maxHeartbeats 4000000 in
theorem c_X10_chance {l : Launch} {P : Wp} {E : State → Heap → Prop} (hW : Wok shC P E) {p1 : Int32} {p2 : Int32} {p3 : Int32} {M : Mem} {r : Int32} {M' : Mem} (h : f_X10_chance p1 p2 p3 M = some (r, M')) : CT l shC P E yX10_chance bX10_chance 4 ((some .int)) 5 147 [.ref (P.2.2.1 0), .int p1, .int p2, .int p3] (some (.int r)) M M' := by
  refine ct_of hW (by decide) (Nat.le_of_ble_eq_true rfl) (fun p e s m args below meth c C ls hl hw => ?_)
  have hx := C.1
  have hb := C.2.1
  replace hl : lv_has ls 4 [(0, .ref (P.2.2.1 0)), (1, .int p1), (2, .int p2), (3, .int p3)] := hl
  refine lv_aload_n hx hb dX10_chance_0 rfl (lv_at hl 0 rfl) ?_
  refine wgetR (t := 13) C hw flX10_49 (rfl : _ = some (0, 10)) rfl dX10_chance_1 ?_
  refine wgetR (t := 14) C hw flX10_106 (rfl : _ = some (0, 1)) rfl dX10_chance_4 ?_
  refine lv_iload_n hx hb dX10_chance_7 rfl (lv_at hl 1 rfl) ?_
  refine wcallV1 (As := [.int p1]) (rest := []) C hw (c_X5_hasPiece hW (rfl : _ = some (0, 5)) rfl) vlX10_132 ⟨Nat.le_of_ble_eq_true rfl, Nat.le_of_ble_eq_true rfl⟩ (rfl : _ = some (0, 5)) rfl rfl rfl hl.1 (Nat.le_of_ble_eq_true rfl) dX10_chance_8 ⟨Nat.zero_le _, Nat.zero_le _⟩ (fun H locs hw => ?_)
  refine lv_if_eq (tgt := 29) hx hb dX10_chance_11 (by decide) (fun c1 => ?_) (fun c1 => ?_)
  · replace h := (if_pos c1).symm.trans h
    refine lv_bipush (v := (-2)) hx hb dX10_chance_29 (by decide) ?_
    exact wretI_W C hw h dX10_chance_31
  · replace h := (if_neg c1).symm.trans h
    refine lv_aload_n hx hb dX10_chance_14 rfl (lv_at hl 0 rfl) ?_
    refine lv_iload_n hx hb dX10_chance_15 rfl (lv_at hl 2 rfl) ?_
    refine wcallV1 (As := [.int p2]) (rest := []) C hw (c_X10_isChanceStep hW  rfl) vlX10_380 ⟨Nat.le_of_ble_eq_true rfl, Nat.le_of_ble_eq_true rfl⟩ (rfl : _ = some (0, 10)) rfl rfl rfl hl.1 (Nat.le_of_ble_eq_true rfl) dX10_chance_16 ⟨Nat.zero_le _, Nat.zero_le _⟩ (fun H locs hw => ?_)
    refine lv_if_eq (tgt := 29) hx hb dX10_chance_19 (by decide) (fun c2 => ?_) (fun c2 => ?_)
    · replace h := (if_pos c2).symm.trans h
      refine lv_bipush (v := (-2)) hx hb dX10_chance_29 (by decide) ?_
      exact wretI_W C hw h dX10_chance_31
    · replace h := (if_neg c2).symm.trans h
      refine lv_iload_n hx hb dX10_chance_22 rfl (lv_at hl 3 rfl) ?_
      refine wcallS1 (As := [.int p3]) (rest := []) C hw (c_X10_isNoPart hW  rfl) slX10_355 ⟨Nat.le_of_ble_eq_true rfl, Nat.le_of_ble_eq_true rfl⟩ rfl rfl hl.1 (Nat.le_of_ble_eq_true rfl) dX10_chance_23 ⟨Nat.zero_le _, Nat.zero_le _⟩ (fun H locs hw => ?_)
      refine lv_if_eq (tgt := 32) hx hb dX10_chance_26 (by decide) (fun c3 => ?_) (fun c3 => ?_)
      · replace h := (if_pos c3).symm.trans h
        refine lv_aload_n hx hb dX10_chance_32 rfl (lv_at hl 0 rfl) ?_
        refine wgetR (t := 57) C hw flX10_72 (rfl : _ = some (0, 10)) rfl dX10_chance_33 ?_
        refine lv_iconst (v := 1) hx hb dX10_chance_36 (by decide) ?_
        refine lv_iload_n hx hb dX10_chance_37 rfl (lv_at hl 1 rfl) ?_
        refine lv_ishl hx hb dX10_chance_38 ?_
        refine lv_iload_n hx hb dX10_chance_39 rfl (lv_at hl 2 rfl) ?_
        obtain ⟨M6, e5, h⟩ := bnd_some h
        refine wcallV1 (As := [.int ((1 : Int32) <<< (p1 &&& 31)), .int p2]) (rest := []) C hw (c_X4_meanUncracked hW  e5) vlX10_383 ⟨Nat.le_of_ble_eq_true rfl, Nat.le_of_ble_eq_true rfl⟩ (rfl : _ = some (0, 4)) rfl rfl rfl hl.1 (Nat.le_of_ble_eq_true rfl) dX10_chance_40 ⟨Nat.zero_le _, Nat.zero_le _⟩ (fun H locs hw => ?_)
        refine lv_iload_n hx hb dX10_chance_43 rfl (lv_at hl 3 rfl) ?_
        refine wcallV1 (As := [.int p3]) (rest := []) C hw (c_X3_part hW (rfl : _ = some (0, 3)) rfl) vlX10_363 ⟨Nat.le_of_ble_eq_true rfl, Nat.le_of_ble_eq_true rfl⟩ (rfl : _ = some (0, 3)) rfl rfl rfl hl.1 (Nat.le_of_ble_eq_true rfl) dX10_chance_44 ⟨Nat.zero_le _, Nat.zero_le _⟩ (fun H locs hw => ?_)
        refine lv_l2i hx hb dX10_chance_47 rfl ?_
        exact wretI_W C hw h dX10_chance_48
      · replace h := (if_neg c3).symm.trans h
        refine lv_bipush (v := (-2)) hx hb dX10_chance_29 (by decide) ?_
        exact wretI_W C hw h dX10_chance_31
set_option maxRecDepth 100000 in
set_option maxHeartbeats 4000000 in
theorem c_X10_mean {l : Launch} {P : Wp} {E : State → Heap → Prop} (hW : Wok shC P E) {p1 : Int32} {p2 : Int32} {M : Mem} {r : Int64} {M' : Mem} (h : f_X10_mean p1 p2 M = some (r, M')) : CT l shC P E yX10_mean bX10_mean 3 ((some .long)) 5 147 [.ref (P.2.2.1 0), .int p1, .int p2] (some (.long r)) M M' := by
  refine ct_of hW (by decide) (Nat.le_of_ble_eq_true rfl) (fun p e s m args below meth c C ls hl hw => ?_)
  have hx := C.1
  have hb := C.2.1
  replace hl : lv_has ls 3 [(0, .ref (P.2.2.1 0)), (1, .int p1), (2, .int p2)] := hl
  refine lv_aload_n hx hb dX10_mean_0 rfl (lv_at hl 0 rfl) ?_
  refine lv_iload_n hx hb dX10_mean_1 rfl (lv_at hl 1 rfl) ?_
  refine wcallV1 (As := [.int p1]) (rest := []) C hw (c_X10_isChanceStep hW  rfl) vlX10_380 ⟨Nat.le_of_ble_eq_true rfl, Nat.le_of_ble_eq_true rfl⟩ (rfl : _ = some (0, 10)) rfl rfl rfl hl.1 (Nat.le_of_ble_eq_true rfl) dX10_mean_2 ⟨Nat.zero_le _, Nat.zero_le _⟩ (fun H locs hw => ?_)
  refine lv_if_eq (tgt := 15) hx hb dX10_mean_5 (by decide) (fun c1 => ?_) (fun c1 => ?_)
  · replace h := (if_pos c1).symm.trans h
    refine lv_ldc2 hx hb C.2.2.2.1 (C.2.2.2.2.1 _ (List.mem_cons_of_mem _ (gm kcX10_387 rfl))) dX10_mean_15 ?_
    exact wretJ_W C hw h dX10_mean_18
  · replace h := (if_neg c1).symm.trans h
    refine lv_iload_n hx hb dX10_mean_8 rfl (lv_at hl 2 rfl) ?_
    refine wcallS1 (As := [.int p2]) (rest := []) C hw (c_X10_isNoPart hW  rfl) slX10_355 ⟨Nat.le_of_ble_eq_true rfl, Nat.le_of_ble_eq_true rfl⟩ rfl rfl hl.1 (Nat.le_of_ble_eq_true rfl) dX10_mean_9 ⟨Nat.zero_le _, Nat.zero_le _⟩ (fun H locs hw => ?_)
    refine lv_if_eq (tgt := 19) hx hb dX10_mean_12 (by decide) (fun c2 => ?_) (fun c2 => ?_)
    · replace h := (if_pos c2).symm.trans h
      refine lv_aload_n hx hb dX10_mean_19 rfl (lv_at hl 0 rfl) ?_
      refine wgetR (t := 57) C hw flX10_72 (rfl : _ = some (0, 10)) rfl dX10_mean_20 ?_
      refine lv_bipush (v := 63) hx hb dX10_mean_23 (by decide) ?_
      refine lv_iload_n hx hb dX10_mean_25 rfl (lv_at hl 1 rfl) ?_
      obtain ⟨M5, e4, h⟩ := bnd_some h
      refine wcallV1 (As := [.int 63, .int p1]) (rest := []) C hw (c_X4_meanUncracked hW  e4) vlX10_383 ⟨Nat.le_of_ble_eq_true rfl, Nat.le_of_ble_eq_true rfl⟩ (rfl : _ = some (0, 4)) rfl rfl rfl hl.1 (Nat.le_of_ble_eq_true rfl) dX10_mean_26 ⟨Nat.zero_le _, Nat.zero_le _⟩ (fun H locs hw => ?_)
      refine lv_iload_n hx hb dX10_mean_29 rfl (lv_at hl 2 rfl) ?_
      refine wcallV1 (As := [.int p2]) (rest := []) C hw (c_X3_part hW (rfl : _ = some (0, 3)) rfl) vlX10_363 ⟨Nat.le_of_ble_eq_true rfl, Nat.le_of_ble_eq_true rfl⟩ (rfl : _ = some (0, 3)) rfl rfl rfl hl.1 (Nat.le_of_ble_eq_true rfl) dX10_mean_30 ⟨Nat.zero_le _, Nat.zero_le _⟩ (fun H locs hw => ?_)
      exact wretJ_W C hw h dX10_mean_33
    · replace h := (if_neg c2).symm.trans h
      refine lv_ldc2 hx hb C.2.2.2.1 (C.2.2.2.2.1 _ (List.mem_cons_of_mem _ (gm kcX10_387 rfl))) dX10_mean_15 ?_
      exact wretJ_W C hw h dX10_mean_18
set_option maxRecDepth 100000 in
set_option maxHeartbeats 4000000 in
theorem c_X10_soundNow {l : Launch} {P : Wp} {E : State → Heap → Prop} (hW : Wok shC P E) {M : Mem} {r : Int32} {M' : Mem} (h : f_X10_soundNow M = some (r, M')) : CT l shC P E yX10_soundNow bX10_soundNow 1 ((some .int)) 5 138 [.ref (P.2.2.1 0)] (some (.int r)) M M' := by
  refine ct_of hW (by decide) (Nat.le_of_ble_eq_true rfl) (fun p e s m args below meth c C ls hl hw => ?_)
  have hx := C.1
  have hb := C.2.1
  replace hl : lv_has ls 1 [(0, .ref (P.2.2.1 0))] := hl
  refine lv_aload_n hx hb dX10_soundNow_0 rfl (lv_at hl 0 rfl) ?_
  obtain ⟨M3, e2, h⟩ := bnd_some h
  refine wcallV1 (As := []) (rest := []) C hw (c_X10_followedCourse hW  e2) vlX10_171 ⟨Nat.le_of_ble_eq_true rfl, Nat.le_of_ble_eq_true rfl⟩ (rfl : _ = some (0, 10)) rfl rfl rfl hl.1 (Nat.le_of_ble_eq_true rfl) dX10_soundNow_1 ⟨Nat.zero_le _, Nat.zero_le _⟩ (fun H locs hw => ?_)
  obtain ⟨r4, e5, h⟩ := bnd_some h
  refine wcallV1 (As := []) (rest := []) C hw (c_X2_neverCracked hW (rfl : _ = some (0, 2)) e5) vlX10_206 ⟨Nat.le_of_ble_eq_true rfl, Nat.le_of_ble_eq_true rfl⟩ (rfl : _ = some (0, 2)) rfl rfl rfl hl.1 (Nat.le_of_ble_eq_true rfl) dX10_soundNow_4 ⟨Nat.zero_le _, Nat.zero_le _⟩ (fun H locs hw => ?_)
  refine wcallS1 (As := [.int r4]) (rest := []) C hw (c_J6_bitCount_0f7a4 hW  rfl) slX10_240 ⟨Nat.le_of_ble_eq_true rfl, Nat.le_of_ble_eq_true rfl⟩ rfl rfl hl.1 (Nat.le_of_ble_eq_true rfl) dX10_soundNow_7 ⟨Nat.zero_le _, Nat.zero_le _⟩ (fun H locs hw => ?_)
  exact wretI_W C hw h dX10_soundNow_10
set_option maxRecDepth 100000 in
set_option maxHeartbeats 4000000 in
theorem c_X10_fires {l : Launch} {P : Wp} {E : State → Heap → Prop} (hW : Wok shC P E) {p1 : Int32} {p2 : Int32} {p3 : Int32} {M : Mem} {r : Int32} {M' : Mem} (h : f_X10_fires p1 p2 p3 M = some (r, M')) : CT l shC P E yX10_fires bX10_fires 4 ((some .int)) 6 158 [.ref (P.2.2.1 0), .int p1, .int p2, .int p3] (some (.int r)) M M' := by
  refine ct_of hW (by decide) (Nat.le_of_ble_eq_true rfl) (fun p e s m args below meth c C ls hl hw => ?_)
  have hx := C.1
  have hb := C.2.1
  replace hl : lv_has ls 4 [(0, .ref (P.2.2.1 0)), (1, .int p1), (2, .int p2), (3, .int p3)] := hl
  refine lv_aload_n hx hb dX10_fires_0 rfl (lv_at hl 0 rfl) ?_
  refine wgetR (t := 13) C hw flX10_49 (rfl : _ = some (0, 10)) rfl dX10_fires_1 ?_
  refine wgetR (t := 14) C hw flX10_106 (rfl : _ = some (0, 1)) rfl dX10_fires_4 ?_
  refine lv_iload_n hx hb dX10_fires_7 rfl (lv_at hl 1 rfl) ?_
  refine wcallV1 (As := [.int p1]) (rest := []) C hw (c_X5_hasZone hW (rfl : _ = some (0, 5)) rfl) vlX10_125 ⟨Nat.le_of_ble_eq_true rfl, Nat.le_of_ble_eq_true rfl⟩ (rfl : _ = some (0, 5)) rfl rfl rfl hl.1 (Nat.le_of_ble_eq_true rfl) dX10_fires_8 ⟨Nat.zero_le _, Nat.zero_le _⟩ (fun H locs hw => ?_)
  refine lv_if_eq (tgt := 40) hx hb dX10_fires_11 (by decide) (fun c1 => ?_) (fun c1 => ?_)
  · replace h := (if_pos c1).symm.trans h
    refine lv_bipush (v := (-2)) hx hb dX10_fires_40 (by decide) ?_
    exact wretI_W C hw h dX10_fires_42
  · replace h := (if_neg c1).symm.trans h
    refine lv_iload_n hx hb dX10_fires_14 rfl (lv_at hl 2 rfl) ?_
    refine lv_iconst (v := 1) hx hb dX10_fires_15 (by decide) ?_
    refine lv_icmp_lt (tgt := 40) hx hb dX10_fires_16 (by decide) (fun c2 => ?_) (fun c2 => ?_)
    · replace h := (if_pos c2).symm.trans h
      refine lv_bipush (v := (-2)) hx hb dX10_fires_40 (by decide) ?_
      exact wretI_W C hw h dX10_fires_42
    · replace h := (if_neg c2).symm.trans h
      refine lv_iload_n hx hb dX10_fires_19 rfl (lv_at hl 2 rfl) ?_
      refine lv_sipush (v := 200) hx hb dX10_fires_20 (by decide) ?_
      refine lv_icmp_gt (tgt := 40) hx hb dX10_fires_23 (by decide) (fun c3 => ?_) (fun c3 => ?_)
      · replace h := (if_pos c3).symm.trans h
        refine lv_bipush (v := (-2)) hx hb dX10_fires_40 (by decide) ?_
        exact wretI_W C hw h dX10_fires_42
      · replace h := (if_neg c3).symm.trans h
        refine lv_aload_n hx hb dX10_fires_26 rfl (lv_at hl 0 rfl) ?_
        refine wgetR (t := 13) C hw flX10_49 (rfl : _ = some (0, 10)) rfl dX10_fires_27 ?_
        refine wgetR (t := 14) C hw flX10_106 (rfl : _ = some (0, 1)) rfl dX10_fires_30 ?_
        refine lv_iload_n hx hb dX10_fires_33 rfl (lv_at hl 3 rfl) ?_
        refine wcallV1 (As := [.int p3]) (rest := []) C hw (c_X5_hasStep hW (rfl : _ = some (0, 5)) rfl) vlX10_147 ⟨Nat.le_of_ble_eq_true rfl, Nat.le_of_ble_eq_true rfl⟩ (rfl : _ = some (0, 5)) rfl rfl rfl hl.1 (Nat.le_of_ble_eq_true rfl) dX10_fires_34 ⟨Nat.zero_le _, Nat.zero_le _⟩ (fun H locs hw => ?_)
        refine lv_if_ne (tgt := 43) hx hb dX10_fires_37 (by decide) (fun c4 => ?_) (fun c4 => ?_)
        · replace h := (if_neg c4).symm.trans h
          refine lv_aload_n hx hb dX10_fires_43 rfl (lv_at hl 0 rfl) ?_
          refine wgetR (t := 13) C hw flX10_49 (rfl : _ = some (0, 10)) rfl dX10_fires_44 ?_
          refine wgetR (t := 20) C hw flX10_112 (rfl : _ = some (0, 1)) rfl dX10_fires_47 ?_
          refine lv_iload_n hx hb dX10_fires_50 rfl (lv_at hl 1 rfl) ?_
          refine lv_iload_n hx hb dX10_fires_51 rfl (lv_at hl 2 rfl) ?_
          refine lv_iload_n hx hb dX10_fires_52 rfl (lv_at hl 3 rfl) ?_
          obtain ⟨r5, M7, e6, h⟩ := bnd2_some h
          refine wcallV1 (As := [.int p1, .int p2, .int p3]) (rest := []) C hw (c_X0_addFire hW (rfl : _ = some (0, 0)) e6) vlX10_389 ⟨Nat.le_of_ble_eq_true rfl, Nat.le_of_ble_eq_true rfl⟩ (rfl : _ = some (0, 0)) rfl rfl rfl hl.1 (Nat.le_of_ble_eq_true rfl) dX10_fires_53 ⟨Nat.zero_le _, Nat.zero_le _⟩ (fun H locs hw => ?_)
          refine lv_if_ne (tgt := 62) hx hb dX10_fires_56 (by decide) (fun c8 => ?_) (fun c8 => ?_)
          · replace h := (if_neg c8).symm.trans h
            refine lv_aload_n hx hb dX10_fires_62 rfl (lv_at hl 0 rfl) ?_
            refine lv_iconst (v := 0) hx hb dX10_fires_63 (by decide) ?_
            refine wputZ C hw fpX10_77 (rfl : _ = some (0, 10)) rfl rfl dX10_fires_64 (fun M9 eM9 H locs hw => ?_)
            replace h := letv_at eM9 h
            refine lv_aload_n hx hb dX10_fires_67 rfl (lv_at hl 0 rfl) ?_
            obtain ⟨r10, M12, e11, h⟩ := bnd2_some h
            refine wcallV1 (As := []) (rest := []) C hw (c_X10_soundNow hW  e11) vlX10_393 ⟨Nat.le_of_ble_eq_true rfl, Nat.le_of_ble_eq_true rfl⟩ (rfl : _ = some (0, 10)) rfl rfl rfl hl.1 (Nat.le_of_ble_eq_true rfl) dX10_fires_68 ⟨Nat.zero_le _, Nat.zero_le _⟩ (fun H locs hw => ?_)
            exact wretI_W C hw h dX10_fires_71
          · replace h := (if_pos c8).symm.trans h
            refine lv_bipush (v := (-5)) hx hb dX10_fires_59 (by decide) ?_
            exact wretI_W C hw h dX10_fires_61
        · replace h := (if_pos c4).symm.trans h
          refine lv_bipush (v := (-2)) hx hb dX10_fires_40 (by decide) ?_
          exact wretI_W C hw h dX10_fires_42
set_option maxRecDepth 100000 in
set_option maxHeartbeats 4000000 in
theorem c_X10_gusts {l : Launch} {P : Wp} {E : State → Heap → Prop} (hW : Wok shC P E) {p1 : Int32} {M : Mem} {r : Int32} {M' : Mem} (h : f_X10_gusts p1 M = some (r, M')) : CT l shC P E yX10_gusts bX10_gusts 2 ((some .int)) 6 158 [.ref (P.2.2.1 0), .int p1] (some (.int r)) M M' := by
  refine ct_of hW (by decide) (Nat.le_of_ble_eq_true rfl) (fun p e s m args below meth c C ls hl hw => ?_)
  have hx := C.1
  have hb := C.2.1
  replace hl : lv_has ls 2 [(0, .ref (P.2.2.1 0)), (1, .int p1)] := hl
  refine lv_aload_n hx hb dX10_gusts_0 rfl (lv_at hl 0 rfl) ?_
  refine wgetR (t := 13) C hw flX10_49 (rfl : _ = some (0, 10)) rfl dX10_gusts_1 ?_
  refine wgetR (t := 14) C hw flX10_106 (rfl : _ = some (0, 1)) rfl dX10_gusts_4 ?_
  refine lv_iload_n hx hb dX10_gusts_7 rfl (lv_at hl 1 rfl) ?_
  refine wcallV1 (As := [.int p1]) (rest := []) C hw (c_X5_hasStepAhead hW (rfl : _ = some (0, 5)) rfl) vlX10_262 ⟨Nat.le_of_ble_eq_true rfl, Nat.le_of_ble_eq_true rfl⟩ (rfl : _ = some (0, 5)) rfl rfl rfl hl.1 (Nat.le_of_ble_eq_true rfl) dX10_gusts_8 ⟨Nat.zero_le _, Nat.zero_le _⟩ (fun H locs hw => ?_)
  refine lv_if_ne (tgt := 17) hx hb dX10_gusts_11 (by decide) (fun c1 => ?_) (fun c1 => ?_)
  · replace h := (if_neg c1).symm.trans h
    refine lv_aload_n hx hb dX10_gusts_17 rfl (lv_at hl 0 rfl) ?_
    refine wgetR (t := 13) C hw flX10_49 (rfl : _ = some (0, 10)) rfl dX10_gusts_18 ?_
    refine wgetR (t := 20) C hw flX10_112 (rfl : _ = some (0, 1)) rfl dX10_gusts_21 ?_
    refine lv_iload_n hx hb dX10_gusts_24 rfl (lv_at hl 1 rfl) ?_
    obtain ⟨r2, M4, e3, h⟩ := bnd2_some h
    refine wcallV1 (As := [.int p1]) (rest := []) C hw (c_X0_addGust hW (rfl : _ = some (0, 0)) e3) vlX10_396 ⟨Nat.le_of_ble_eq_true rfl, Nat.le_of_ble_eq_true rfl⟩ (rfl : _ = some (0, 0)) rfl rfl rfl hl.1 (Nat.le_of_ble_eq_true rfl) dX10_gusts_25 ⟨Nat.zero_le _, Nat.zero_le _⟩ (fun H locs hw => ?_)
    refine lv_if_ne (tgt := 34) hx hb dX10_gusts_28 (by decide) (fun c5 => ?_) (fun c5 => ?_)
    · replace h := (if_neg c5).symm.trans h
      refine lv_aload_n hx hb dX10_gusts_34 rfl (lv_at hl 0 rfl) ?_
      refine lv_iconst (v := 0) hx hb dX10_gusts_35 (by decide) ?_
      refine wputZ C hw fpX10_77 (rfl : _ = some (0, 10)) rfl rfl dX10_gusts_36 (fun M6 eM6 H locs hw => ?_)
      replace h := letv_at eM6 h
      refine lv_aload_n hx hb dX10_gusts_39 rfl (lv_at hl 0 rfl) ?_
      obtain ⟨r7, M9, e8, h⟩ := bnd2_some h
      refine wcallV1 (As := []) (rest := []) C hw (c_X10_soundNow hW  e8) vlX10_393 ⟨Nat.le_of_ble_eq_true rfl, Nat.le_of_ble_eq_true rfl⟩ (rfl : _ = some (0, 10)) rfl rfl rfl hl.1 (Nat.le_of_ble_eq_true rfl) dX10_gusts_40 ⟨Nat.zero_le _, Nat.zero_le _⟩ (fun H locs hw => ?_)
      exact wretI_W C hw h dX10_gusts_43
    · replace h := (if_pos c5).symm.trans h
      refine lv_bipush (v := (-5)) hx hb dX10_gusts_31 (by decide) ?_
      exact wretI_W C hw h dX10_gusts_33
  · replace h := (if_pos c1).symm.trans h
    refine lv_bipush (v := (-2)) hx hb dX10_gusts_14 (by decide) ?_
    exact wretI_W C hw h dX10_gusts_16
set_option maxRecDepth 100000 in
set_option maxHeartbeats 4000000 in
theorem c_X10_undo {l : Launch} {P : Wp} {E : State → Heap → Prop} (hW : Wok shC P E) {M : Mem} {r : Int32} {M' : Mem} (h : f_X10_undo M = some (r, M')) : CT l shC P E yX10_undo bX10_undo 1 ((some .int)) 2 44 [.ref (P.2.2.1 0)] (some (.int r)) M M' := by
  refine ct_of hW (by decide) (Nat.le_of_ble_eq_true rfl) (fun p e s m args below meth c C ls hl hw => ?_)
  have hx := C.1
  have hb := C.2.1
  replace hl : lv_has ls 1 [(0, .ref (P.2.2.1 0))] := hl
  refine lv_aload_n hx hb dX10_undo_0 rfl (lv_at hl 0 rfl) ?_
  refine wgetR (t := 13) C hw flX10_49 (rfl : _ = some (0, 10)) rfl dX10_undo_1 ?_
  refine wgetR (t := 14) C hw flX10_106 (rfl : _ = some (0, 1)) rfl dX10_undo_4 ?_
  refine wcallV1 (As := []) (rest := []) C hw (c_X5_isTold hW (rfl : _ = some (0, 5)) rfl) vlX10_202 ⟨Nat.le_of_ble_eq_true rfl, Nat.le_of_ble_eq_true rfl⟩ (rfl : _ = some (0, 5)) rfl rfl rfl hl.1 (Nat.le_of_ble_eq_true rfl) dX10_undo_7 ⟨Nat.zero_le _, Nat.zero_le _⟩ (fun H locs hw => ?_)
  refine lv_if_ne (tgt := 16) hx hb dX10_undo_10 (by decide) (fun c1 => ?_) (fun c1 => ?_)
  · replace h := (if_neg c1).symm.trans h
    refine lv_aload_n hx hb dX10_undo_16 rfl (lv_at hl 0 rfl) ?_
    refine wgetR (t := 13) C hw flX10_49 (rfl : _ = some (0, 10)) rfl dX10_undo_17 ?_
    refine wgetR (t := 20) C hw flX10_112 (rfl : _ = some (0, 1)) rfl dX10_undo_20 ?_
    obtain ⟨r2, M4, e3, h⟩ := bnd2_some h
    refine wcallV1 (As := []) (rest := []) C hw (c_X0_takeBack hW (rfl : _ = some (0, 0)) e3) vlX10_399 ⟨Nat.le_of_ble_eq_true rfl, Nat.le_of_ble_eq_true rfl⟩ (rfl : _ = some (0, 0)) rfl rfl rfl hl.1 (Nat.le_of_ble_eq_true rfl) dX10_undo_23 ⟨Nat.zero_le _, Nat.zero_le _⟩ (fun H locs hw => ?_)
    refine lv_if_ne (tgt := 32) hx hb dX10_undo_26 (by decide) (fun c5 => ?_) (fun c5 => ?_)
    · replace h := (if_neg c5).symm.trans h
      refine lv_aload_n hx hb dX10_undo_32 rfl (lv_at hl 0 rfl) ?_
      refine lv_iconst (v := 0) hx hb dX10_undo_33 (by decide) ?_
      refine wputZ C hw fpX10_77 (rfl : _ = some (0, 10)) rfl rfl dX10_undo_34 (fun M6 eM6 H locs hw => ?_)
      replace h := letv_at eM6 h
      refine lv_aload_n hx hb dX10_undo_37 rfl (lv_at hl 0 rfl) ?_
      refine wgetR (t := 13) C hw flX10_49 (rfl : _ = some (0, 10)) rfl dX10_undo_38 ?_
      refine wgetR (t := 20) C hw flX10_112 (rfl : _ = some (0, 1)) rfl dX10_undo_41 ?_
      refine wgetI C hw flX10_402 (rfl : _ = some (0, 0)) dX10_undo_44 ?_
      exact wretI_W C hw h dX10_undo_47
    · replace h := (if_pos c5).symm.trans h
      refine lv_bipush (v := (-5)) hx hb dX10_undo_29 (by decide) ?_
      exact wretI_W C hw h dX10_undo_31
  · replace h := (if_pos c1).symm.trans h
    refine lv_bipush (v := (-2)) hx hb dX10_undo_13 (by decide) ?_
    exact wretI_W C hw h dX10_undo_15
set_option maxRecDepth 100000 in
set_option maxHeartbeats 4000000 in
theorem c_X10_anew {l : Launch} {P : Wp} {E : State → Heap → Prop} (hW : Wok shC P E) {M : Mem} {r : Int32} {M' : Mem} (h : f_X10_anew M = some (r, M')) : CT l shC P E yX10_anew bX10_anew 2 ((some .int)) 2 43 [.ref (P.2.2.1 0)] (some (.int r)) M M' := by
  refine ct_of hW (by decide) (Nat.le_of_ble_eq_true rfl) (fun p e s m args below meth c C ls hl hw => ?_)
  have hx := C.1
  have hb := C.2.1
  replace hl : lv_has ls 2 [(0, .ref (P.2.2.1 0))] := hl
  refine lv_aload_n hx hb dX10_anew_0 rfl (lv_at hl 0 rfl) ?_
  refine wgetR (t := 13) C hw flX10_49 (rfl : _ = some (0, 10)) rfl dX10_anew_1 ?_
  refine wgetR (t := 14) C hw flX10_106 (rfl : _ = some (0, 1)) rfl dX10_anew_4 ?_
  refine wcallV1 (As := []) (rest := []) C hw (c_X5_isTold hW (rfl : _ = some (0, 5)) rfl) vlX10_202 ⟨Nat.le_of_ble_eq_true rfl, Nat.le_of_ble_eq_true rfl⟩ (rfl : _ = some (0, 5)) rfl rfl rfl hl.1 (Nat.le_of_ble_eq_true rfl) dX10_anew_7 ⟨Nat.zero_le _, Nat.zero_le _⟩ (fun H locs hw => ?_)
  refine lv_if_ne (tgt := 16) hx hb dX10_anew_10 (by decide) (fun c1 => ?_) (fun c1 => ?_)
  · replace h := (if_neg c1).symm.trans h
    refine lv_aload_n hx hb dX10_anew_16 rfl (lv_at hl 0 rfl) ?_
    refine wgetR (t := 13) C hw flX10_49 (rfl : _ = some (0, 10)) rfl dX10_anew_17 ?_
    refine wgetR (t := 20) C hw flX10_112 (rfl : _ = some (0, 1)) rfl dX10_anew_20 ?_
    refine wgetI C hw flX10_402 (rfl : _ = some (0, 0)) dX10_anew_23 ?_
    refine lv_topi (fun x2 ex2 => ?_)
    replace h := letv_at ex2 h
    refine lv_istore_n (lv' := [(1, .int x2), (0, .ref (P.2.2.1 0))]) hx hb dX10_anew_26 rfl hl (by decide) rfl (fun ls hl => ?_)
    refine lv_aload_n hx hb dX10_anew_27 rfl (lv_at hl 1 rfl) ?_
    refine wgetR (t := 13) C hw flX10_49 (rfl : _ = some (0, 10)) rfl dX10_anew_28 ?_
    refine wgetR (t := 20) C hw flX10_112 (rfl : _ = some (0, 1)) rfl dX10_anew_31 ?_
    obtain ⟨M5, e4, h⟩ := bnd_some h
    refine wcallV0 (As := []) (rest := []) C hw (c_X0_clear hW (rfl : _ = some (0, 0)) e4) vlX10_116 ⟨Nat.le_of_ble_eq_true rfl, Nat.le_of_ble_eq_true rfl⟩ (rfl : _ = some (0, 0)) rfl rfl rfl hl.1 (Nat.le_of_ble_eq_true rfl) dX10_anew_34 ⟨Nat.zero_le _, Nat.zero_le _⟩ (fun H locs hw => ?_)
    refine lv_aload_n hx hb dX10_anew_37 rfl (lv_at hl 1 rfl) ?_
    refine lv_iconst (v := 0) hx hb dX10_anew_38 (by decide) ?_
    refine wputZ C hw fpX10_77 (rfl : _ = some (0, 10)) rfl rfl dX10_anew_39 (fun M6 eM6 H locs hw => ?_)
    replace h := letv_at eM6 h
    refine lv_iload_n hx hb dX10_anew_42 rfl (lv_at hl 0 rfl) ?_
    exact wretI_W C hw h dX10_anew_43
  · replace h := (if_pos c1).symm.trans h
    refine lv_bipush (v := (-2)) hx hb dX10_anew_13 (by decide) ?_
    exact wretI_W C hw h dX10_anew_15
set_option maxRecDepth 100000 in
set_option maxHeartbeats 4000000 in
theorem c_X10_drawn {l : Launch} {P : Wp} {E : State → Heap → Prop} (hW : Wok shC P E) {p1 : Int32} {p2 : Int32} {M : Mem} {r : Int32} {M' : Mem} (h : f_X10_drawn p1 p2 M = some (r, M')) : CT l shC P E yX10_drawn bX10_drawn 3 ((some .int)) 5 140 [.ref (P.2.2.1 0), .int p1, .int p2] (some (.int r)) M M' := by
  refine ct_of hW (by decide) (Nat.le_of_ble_eq_true rfl) (fun p e s m args below meth c C ls hl hw => ?_)
  have hx := C.1
  have hb := C.2.1
  replace hl : lv_has ls 3 [(0, .ref (P.2.2.1 0)), (1, .int p1), (2, .int p2)] := hl
  refine lv_aload_n hx hb dX10_drawn_0 rfl (lv_at hl 0 rfl) ?_
  refine wgetR (t := 13) C hw flX10_49 (rfl : _ = some (0, 10)) rfl dX10_drawn_1 ?_
  refine wgetR (t := 14) C hw flX10_106 (rfl : _ = some (0, 1)) rfl dX10_drawn_4 ?_
  refine wcallV1 (As := []) (rest := []) C hw (c_X5_isTold hW (rfl : _ = some (0, 5)) rfl) vlX10_202 ⟨Nat.le_of_ble_eq_true rfl, Nat.le_of_ble_eq_true rfl⟩ (rfl : _ = some (0, 5)) rfl rfl rfl hl.1 (Nat.le_of_ble_eq_true rfl) dX10_drawn_7 ⟨Nat.zero_le _, Nat.zero_le _⟩ (fun H locs hw => ?_)
  refine lv_if_eq (tgt := 31) hx hb dX10_drawn_10 (by decide) (fun c1 => ?_) (fun c1 => ?_)
  · replace h := (if_pos c1).symm.trans h
    refine lv_bipush (v := (-2)) hx hb dX10_drawn_31 (by decide) ?_
    exact wretI_W C hw h dX10_drawn_33
  · replace h := (if_neg c1).symm.trans h
    refine lv_iload_n hx hb dX10_drawn_13 rfl (lv_at hl 1 rfl) ?_
    refine lv_if_lt (tgt := 31) hx hb dX10_drawn_14 (by decide) (fun c2 => ?_) (fun c2 => ?_)
    · replace h := (if_pos c2).symm.trans h
      refine lv_bipush (v := (-2)) hx hb dX10_drawn_31 (by decide) ?_
      exact wretI_W C hw h dX10_drawn_33
    · replace h := (if_neg c2).symm.trans h
      refine lv_iload_n hx hb dX10_drawn_17 rfl (lv_at hl 1 rfl) ?_
      refine lv_ldcw hx hb C.2.2.2.1 (C.2.2.2.2.1 _ (List.mem_cons_of_mem _ (gm kcX10_405 rfl))) dX10_drawn_18 ?_
      refine lv_icmp_gt (tgt := 31) hx hb dX10_drawn_21 (by decide) (fun c3 => ?_) (fun c3 => ?_)
      · replace h := (if_pos c3).symm.trans h
        refine lv_bipush (v := (-2)) hx hb dX10_drawn_31 (by decide) ?_
        exact wretI_W C hw h dX10_drawn_33
      · replace h := (if_neg c3).symm.trans h
        refine lv_iload_n hx hb dX10_drawn_24 rfl (lv_at hl 2 rfl) ?_
        refine wcallS1 (As := [.int p2]) (rest := []) C hw (c_X10_isNoPart hW  rfl) slX10_355 ⟨Nat.le_of_ble_eq_true rfl, Nat.le_of_ble_eq_true rfl⟩ rfl rfl hl.1 (Nat.le_of_ble_eq_true rfl) dX10_drawn_25 ⟨Nat.zero_le _, Nat.zero_le _⟩ (fun H locs hw => ?_)
        refine lv_if_eq (tgt := 34) hx hb dX10_drawn_28 (by decide) (fun c4 => ?_) (fun c4 => ?_)
        · replace h := (if_pos c4).symm.trans h
          refine lv_iload_n hx hb dX10_drawn_34 rfl (lv_at hl 2 rfl) ?_
          refine lv_if_ne (tgt := 50) hx hb dX10_drawn_35 (by decide) (fun c5 => ?_) (fun c5 => ?_)
          · replace h := (if_neg c5).symm.trans h
            refine lv_aload_n hx hb dX10_drawn_50 rfl (lv_at hl 0 rfl) ?_
            refine wgetR (t := 57) C hw flX10_72 (rfl : _ = some (0, 10)) rfl dX10_drawn_51 ?_
            refine lv_iload_n hx hb dX10_drawn_54 rfl (lv_at hl 1 rfl) ?_
            refine lv_i2l hx hb dX10_drawn_55 rfl ?_
            obtain ⟨r6, M8, e7, h⟩ := bnd2_some h
            refine wcallV1 (As := [.long ((p1 : Int32).toInt64)]) (rest := []) C hw (c_X4_soundFrom hW  e7) vlX10_410 ⟨Nat.le_of_ble_eq_true rfl, Nat.le_of_ble_eq_true rfl⟩ (rfl : _ = some (0, 4)) rfl rfl rfl hl.1 (Nat.le_of_ble_eq_true rfl) dX10_drawn_56 ⟨Nat.zero_le _, Nat.zero_le _⟩ (fun H locs hw => ?_)
            exact wretI_W C hw h dX10_drawn_59
          · replace h := (if_pos c5).symm.trans h
            refine lv_aload_n hx hb dX10_drawn_38 rfl (lv_at hl 0 rfl) ?_
            refine wgetR (t := 57) C hw flX10_72 (rfl : _ = some (0, 10)) rfl dX10_drawn_39 ?_
            refine lv_iload_n hx hb dX10_drawn_42 rfl (lv_at hl 1 rfl) ?_
            refine lv_i2l hx hb dX10_drawn_43 rfl ?_
            obtain ⟨r9, e10, h⟩ := bnd_some h
            refine wcallV1 (As := [.long ((p1 : Int32).toInt64)]) (rest := []) C hw (c_X4_draughtsFrom hW  e10) vlX10_406 ⟨Nat.le_of_ble_eq_true rfl, Nat.le_of_ble_eq_true rfl⟩ (rfl : _ = some (0, 4)) rfl rfl rfl hl.1 (Nat.le_of_ble_eq_true rfl) dX10_drawn_44 ⟨Nat.zero_le _, Nat.zero_le _⟩ (fun H locs hw => ?_)
            refine lv_goto (tgt := 59) hx hb dX10_drawn_47 (by decide) ?_
            exact wretI_W C hw h dX10_drawn_59
        · replace h := (if_neg c4).symm.trans h
          refine lv_bipush (v := (-2)) hx hb dX10_drawn_31 (by decide) ?_
          exact wretI_W C hw h dX10_drawn_33
set_option maxRecDepth 100000 in
set_option maxHeartbeats 4000000 in
theorem c_X10_luck {l : Launch} {P : Wp} {E : State → Heap → Prop} (hW : Wok shC P E) {p1 : Int32} {p2 : Int32} {p3 : Int32} {M : Mem} {r : Int32} {M' : Mem} (h : f_X10_luck p1 p2 p3 M = some (r, M')) : CT l shC P E yX10_luck bX10_luck 4 ((some .int)) 5 143 [.ref (P.2.2.1 0), .int p1, .int p2, .int p3] (some (.int r)) M M' := by
  refine ct_of hW (by decide) (Nat.le_of_ble_eq_true rfl) (fun p e s m args below meth c C ls hl hw => ?_)
  have hx := C.1
  have hb := C.2.1
  replace hl : lv_has ls 4 [(0, .ref (P.2.2.1 0)), (1, .int p1), (2, .int p2), (3, .int p3)] := hl
  refine lv_aload_n hx hb dX10_luck_0 rfl (lv_at hl 0 rfl) ?_
  refine wgetR (t := 13) C hw flX10_49 (rfl : _ = some (0, 10)) rfl dX10_luck_1 ?_
  refine wgetR (t := 14) C hw flX10_106 (rfl : _ = some (0, 1)) rfl dX10_luck_4 ?_
  refine lv_iload_n hx hb dX10_luck_7 rfl (lv_at hl 3 rfl) ?_
  refine wcallV1 (As := [.int p3]) (rest := []) C hw (c_X5_hasPiece hW (rfl : _ = some (0, 5)) rfl) vlX10_132 ⟨Nat.le_of_ble_eq_true rfl, Nat.le_of_ble_eq_true rfl⟩ (rfl : _ = some (0, 5)) rfl rfl rfl hl.1 (Nat.le_of_ble_eq_true rfl) dX10_luck_8 ⟨Nat.zero_le _, Nat.zero_le _⟩ (fun H locs hw => ?_)
  refine lv_if_eq (tgt := 25) hx hb dX10_luck_11 (by decide) (fun c1 => ?_) (fun c1 => ?_)
  · replace h := (if_pos c1).symm.trans h
    refine lv_bipush (v := (-2)) hx hb dX10_luck_25 (by decide) ?_
    exact wretI_W C hw h dX10_luck_27
  · replace h := (if_neg c1).symm.trans h
    refine lv_iload_n hx hb dX10_luck_14 rfl (lv_at hl 1 rfl) ?_
    refine lv_if_lt (tgt := 25) hx hb dX10_luck_15 (by decide) (fun c2 => ?_) (fun c2 => ?_)
    · replace h := (if_pos c2).symm.trans h
      refine lv_bipush (v := (-2)) hx hb dX10_luck_25 (by decide) ?_
      exact wretI_W C hw h dX10_luck_27
    · replace h := (if_neg c2).symm.trans h
      refine lv_iload_n hx hb dX10_luck_18 rfl (lv_at hl 1 rfl) ?_
      refine lv_ldcw hx hb C.2.2.2.1 (C.2.2.2.2.1 _ (List.mem_cons_of_mem _ (gm kcX10_405 rfl))) dX10_luck_19 ?_
      refine lv_icmp_le (tgt := 28) hx hb dX10_luck_22 (by decide) (fun c3 => ?_) (fun c3 => ?_)
      · replace h := (if_pos c3).symm.trans h
        refine lv_iload_n hx hb dX10_luck_28 rfl (lv_at hl 2 rfl) ?_
        refine lv_iconst (v := 1) hx hb dX10_luck_29 (by decide) ?_
        refine lv_icmp_lt (tgt := 39) hx hb dX10_luck_30 (by decide) (fun c4 => ?_) (fun c4 => ?_)
        · replace h := (if_pos c4).symm.trans h
          refine lv_bipush (v := (-2)) hx hb dX10_luck_39 (by decide) ?_
          refine lv_goto (tgt := 54) hx hb dX10_luck_41 (by decide) ?_
          exact wretI_W C hw h dX10_luck_54
        · replace h := (if_neg c4).symm.trans h
          refine lv_iload_n hx hb dX10_luck_33 rfl (lv_at hl 2 rfl) ?_
          refine lv_bipush (v := 20) hx hb dX10_luck_34 (by decide) ?_
          refine lv_icmp_le (tgt := 44) hx hb dX10_luck_36 (by decide) (fun c5 => ?_) (fun c5 => ?_)
          · replace h := (if_pos c5).symm.trans h
            refine lv_aload_n hx hb dX10_luck_44 rfl (lv_at hl 0 rfl) ?_
            refine wgetR (t := 57) C hw flX10_72 (rfl : _ = some (0, 10)) rfl dX10_luck_45 ?_
            refine lv_iload_n hx hb dX10_luck_48 rfl (lv_at hl 1 rfl) ?_
            refine lv_iload_n hx hb dX10_luck_49 rfl (lv_at hl 2 rfl) ?_
            refine lv_iload_n hx hb dX10_luck_50 rfl (lv_at hl 3 rfl) ?_
            obtain ⟨r6, M8, e7, h⟩ := bnd2_some h
            refine wcallV1 (As := [.int p1, .int p2, .int p3]) (rest := []) C hw (c_X4_timesSound hW  e7) vlX10_413 ⟨Nat.le_of_ble_eq_true rfl, Nat.le_of_ble_eq_true rfl⟩ (rfl : _ = some (0, 4)) rfl rfl rfl hl.1 (Nat.le_of_ble_eq_true rfl) dX10_luck_51 ⟨Nat.zero_le _, Nat.zero_le _⟩ (fun H locs hw => ?_)
            exact wretI_W C hw h dX10_luck_54
          · replace h := (if_neg c5).symm.trans h
            refine lv_bipush (v := (-2)) hx hb dX10_luck_39 (by decide) ?_
            refine lv_goto (tgt := 54) hx hb dX10_luck_41 (by decide) ?_
            exact wretI_W C hw h dX10_luck_54
      · replace h := (if_neg c3).symm.trans h
        refine lv_bipush (v := (-2)) hx hb dX10_luck_25 (by decide) ?_
        exact wretI_W C hw h dX10_luck_27
set_option maxRecDepth 100000 in
set_option maxHeartbeats 4000000 in
theorem c_X10_rate {l : Launch} {P : Wp} {E : State → Heap → Prop} (hW : Wok shC P E) {p1 : Int32} {p2 : Int32} {M : Mem} {r : Int32} {M' : Mem} (h : f_X10_rate p1 p2 M = some (r, M')) : CT l shC P E yX10_rate bX10_rate 4 ((some .int)) 1 21 [.ref (P.2.2.1 0), .int p1, .int p2] (some (.int r)) M M' := by
  refine ct_of hW (by decide) (Nat.le_of_ble_eq_true rfl) (fun p e s m args below meth c C ls hl hw => ?_)
  have hx := C.1
  have hb := C.2.1
  replace hl : lv_has ls 4 [(0, .ref (P.2.2.1 0)), (1, .int p1), (2, .int p2)] := hl
  refine lv_aload_n hx hb dX10_rate_0 rfl (lv_at hl 0 rfl) ?_
  refine wgetR (t := 13) C hw flX10_49 (rfl : _ = some (0, 10)) rfl dX10_rate_1 ?_
  refine wgetR (t := 14) C hw flX10_106 (rfl : _ = some (0, 1)) rfl dX10_rate_4 ?_
  refine lv_iload_n hx hb dX10_rate_7 rfl (lv_at hl 1 rfl) ?_
  refine wcallV1 (As := [.int p1]) (rest := []) C hw (c_X5_hasPiece hW (rfl : _ = some (0, 5)) rfl) vlX10_132 ⟨Nat.le_of_ble_eq_true rfl, Nat.le_of_ble_eq_true rfl⟩ (rfl : _ = some (0, 5)) rfl rfl rfl hl.1 (Nat.le_of_ble_eq_true rfl) dX10_rate_8 ⟨Nat.zero_le _, Nat.zero_le _⟩ (fun H locs hw => ?_)
  refine lv_if_eq (tgt := 25) hx hb dX10_rate_11 (by decide) (fun c1 => ?_) (fun c1 => ?_)
  · replace h := (if_pos c1).symm.trans h
    refine lv_bipush (v := (-2)) hx hb dX10_rate_25 (by decide) ?_
    exact wretI_W C hw h dX10_rate_27
  · replace h := (if_neg c1).symm.trans h
    refine lv_iload_n hx hb dX10_rate_14 rfl (lv_at hl 2 rfl) ?_
    refine lv_if_lt (tgt := 25) hx hb dX10_rate_15 (by decide) (fun c2 => ?_) (fun c2 => ?_)
    · replace h := (if_pos c2).symm.trans h
      refine lv_bipush (v := (-2)) hx hb dX10_rate_25 (by decide) ?_
      exact wretI_W C hw h dX10_rate_27
    · replace h := (if_neg c2).symm.trans h
      refine lv_iload_n hx hb dX10_rate_18 rfl (lv_at hl 2 rfl) ?_
      refine lv_sipush (v := 300) hx hb dX10_rate_19 (by decide) ?_
      refine lv_icmp_le (tgt := 28) hx hb dX10_rate_22 (by decide) (fun c3 => ?_) (fun c3 => ?_)
      · replace h := (if_pos c3).symm.trans h
        refine lv_aload_n hx hb dX10_rate_28 rfl (lv_at hl 0 rfl) ?_
        refine wgetR (t := 13) C hw flX10_49 (rfl : _ = some (0, 10)) rfl dX10_rate_29 ?_
        refine wgetR (t := 20) C hw flX10_112 (rfl : _ = some (0, 1)) rfl dX10_rate_32 ?_
        refine wgetI C hw flX10_402 (rfl : _ = some (0, 0)) dX10_rate_35 ?_
        refine lv_if_le (tgt := 44) hx hb dX10_rate_38 (by decide) (fun c4 => ?_) (fun c4 => ?_)
        · replace h := (if_pos c4).symm.trans h
          refine lv_aload_n hx hb dX10_rate_44 rfl (lv_at hl 0 rfl) ?_
          refine wgetR (t := 13) C hw flX10_49 (rfl : _ = some (0, 10)) rfl dX10_rate_45 ?_
          refine wgetR (t := 14) C hw flX10_106 (rfl : _ = some (0, 1)) rfl dX10_rate_48 ?_
          refine wgetR (t := 18) C hw flX10_141 (rfl : _ = some (0, 5)) rfl dX10_rate_51 ?_
          refine lv_iload_n hx hb dX10_rate_54 rfl (lv_at hl 1 rfl) ?_
          obtain ⟨g5, h⟩ := grd h
          refine wald C hw (rfl : _ = some (1, 6)) g5 dX10_rate_55 ?_
          refine lv_topi (fun x6 ex6 => ?_)
          replace h := letv_at ex6 h
          refine lv_istore_n (lv' := [(3, .int x6), (0, .ref (P.2.2.1 0)), (1, .int p1), (2, .int p2)]) hx hb dX10_rate_56 rfl hl (by decide) rfl (fun ls hl => ?_)
          refine lv_aload_n hx hb dX10_rate_57 rfl (lv_at hl 1 rfl) ?_
          refine wgetR (t := 13) C hw flX10_49 (rfl : _ = some (0, 10)) rfl dX10_rate_58 ?_
          refine wgetR (t := 14) C hw flX10_106 (rfl : _ = some (0, 1)) rfl dX10_rate_61 ?_
          refine wgetR (t := 18) C hw flX10_141 (rfl : _ = some (0, 5)) rfl dX10_rate_64 ?_
          refine lv_iload_n hx hb dX10_rate_67 rfl (lv_at hl 2 rfl) ?_
          refine lv_iload_n hx hb dX10_rate_68 rfl (lv_at hl 3 rfl) ?_
          obtain ⟨g8, h⟩ := grd h
          refine wast C hw (rfl : _ = some (1, 6)) g8 dX10_rate_69 (fun M7 eM7 H locs hw => ?_)
          replace h := letv_at eM7 h
          refine lv_aload_n hx hb dX10_rate_70 rfl (lv_at hl 1 rfl) ?_
          refine lv_iconst (v := 0) hx hb dX10_rate_71 (by decide) ?_
          refine wputZ C hw fpX10_77 (rfl : _ = some (0, 10)) rfl rfl dX10_rate_72 (fun M9 eM9 H locs hw => ?_)
          replace h := letv_at eM9 h
          refine lv_iload_n hx hb dX10_rate_75 rfl (lv_at hl 0 rfl) ?_
          exact wretI_W C hw h dX10_rate_76
        · replace h := (if_neg c4).symm.trans h
          refine lv_bipush (v := (-5)) hx hb dX10_rate_41 (by decide) ?_
          exact wretI_W C hw h dX10_rate_43
      · replace h := (if_neg c3).symm.trans h
        refine lv_bipush (v := (-2)) hx hb dX10_rate_25 (by decide) ?_
        exact wretI_W C hw h dX10_rate_27
set_option maxRecDepth 100000 in
set_option maxHeartbeats 4000000 in
theorem c_X10_slotsWithRows {l : Launch} {P : Wp} {E : State → Heap → Prop} (hW : Wok shC P E) {M : Mem} {r : Int32} (h : f_X10_slotsWithRows M = some r) : CT l shC P E yX10_slotsWithRows bX10_slotsWithRows 3 ((some .int)) 0 0 [.ref (P.2.2.1 0)] (some (.int r)) M M := by
  refine ct_of hW (by decide) (Nat.le_of_ble_eq_true rfl) (fun p e s m args below meth c C ls hl hw => ?_)
  have hx := C.1
  have hb := C.2.1
  replace hl : lv_has ls 3 [(0, .ref (P.2.2.1 0))] := hl
  have cut_4 : ∀ (n_4 : Nat) (v1_4 : Int32) (v2_4 : Int32) (ls : Array Slot) (H : Heap) (locs : List Loc), lv_has ls 3 [(0, .ref (P.2.2.1 0)), (1, .int v1_4), (2, .int v2_4)] → Hw shC P M s H locs → lq2 (L_X10_slotsWithRows_4 M) n_4 v1_4 v2_4 = some r → W p l e { frames := 0, cells := 0, slots := 0, locals := 0 } s m args below meth c H locs 0 0 (MQ below (CQ shC P E (some (.int r)) M) args s 0 0 (wA shC P)) (F0 m 4 ls []) := by
    intro n_4
    induction n_4 with
    | zero => intro v1_4 v2_4 ls H locs hl hw h; cases h
    | succ n_4 ih_4 =>
      intro v1_4 v2_4 ls H locs hl hw h
      replace h := lq2_succ h
      refine lv_iload_n hx hb dX10_slotsWithRows_4 rfl (lv_at hl 2 rfl) ?_
      refine lv_iconst (v := 4) hx hb dX10_slotsWithRows_5 (by decide) ?_
      refine lv_icmp_ge (tgt := 30) hx hb dX10_slotsWithRows_6 (by decide) (fun c1 => ?_) (fun c1 => ?_)
      · replace h := (if_pos c1).symm.trans h
        refine lv_iload_n hx hb dX10_slotsWithRows_30 rfl (lv_at hl 1 rfl) ?_
        exact wretI_R C hw h dX10_slotsWithRows_31
      · replace h := (if_neg c1).symm.trans h
        refine lv_aload_n hx hb dX10_slotsWithRows_9 rfl (lv_at hl 0 rfl) ?_
        refine wgetR (t := 3) C hw flX10_21 (rfl : _ = some (0, 10)) rfl dX10_slotsWithRows_10 ?_
        refine lv_iload_n hx hb dX10_slotsWithRows_13 rfl (lv_at hl 2 rfl) ?_
        obtain ⟨g2, h⟩ := grd h
        refine wqald6 C hw (rfl : _ = some (6, 4)) g2 dX10_slotsWithRows_14 ?_
        refine wgetI C hw flX10_339 (rows_ho g2) dX10_slotsWithRows_15 ?_
        refine lv_if_eq (tgt := 24) hx hb dX10_slotsWithRows_18 (by decide) (fun c3 => ?_) (fun c3 => ?_)
        · replace h := (if_pos c3).symm.trans h
          refine lv_iinc (v := (v2_4 + 1)) (lv' := [(2, .int (v2_4 + 1)), (0, .ref (P.2.2.1 0)), (1, .int v1_4)]) (k := 2) hx hb dX10_slotsWithRows_24 hl rfl (congrArg (fun z => v2_4 + z) (by decide)) (by decide) rfl (fun ls hl => ?_)
          refine lv_goto (tgt := 4) hx hb dX10_slotsWithRows_27 (by decide) ?_
          exact ih_4 v1_4 (v2_4 + 1) ls _ _ (lv_sub hl [1, 2, 0] rfl) hw h
        · replace h := (if_neg c3).symm.trans h
          refine lv_iinc (v := (v1_4 + 1)) (lv' := [(1, .int (v1_4 + 1)), (0, .ref (P.2.2.1 0)), (2, .int v2_4)]) (k := 1) hx hb dX10_slotsWithRows_21 hl rfl (congrArg (fun z => v1_4 + z) (by decide)) (by decide) rfl (fun ls hl => ?_)
          refine lv_iinc (v := (v2_4 + 1)) (lv' := [(2, .int (v2_4 + 1)), (1, .int (v1_4 + 1)), (0, .ref (P.2.2.1 0))]) (k := 2) hx hb dX10_slotsWithRows_24 hl rfl (congrArg (fun z => v2_4 + z) (by decide)) (by decide) rfl (fun ls hl => ?_)
          refine lv_goto (tgt := 4) hx hb dX10_slotsWithRows_27 (by decide) ?_
          exact ih_4 (v1_4 + 1) (v2_4 + 1) ls _ _ (lv_sub hl [2, 1, 0] rfl) hw h
  refine lv_iconst (v := 0) hx hb dX10_slotsWithRows_0 (by decide) ?_
  refine lv_istore_n (lv' := [(1, .int 0), (0, .ref (P.2.2.1 0))]) hx hb dX10_slotsWithRows_1 rfl hl (by decide) rfl (fun ls hl => ?_)
  refine lv_iconst (v := 0) hx hb dX10_slotsWithRows_2 (by decide) ?_
  refine lv_istore_n (lv' := [(2, .int 0), (1, .int 0), (0, .ref (P.2.2.1 0))]) hx hb dX10_slotsWithRows_3 rfl hl (by decide) rfl (fun ls hl => ?_)
  exact cut_4 FU 0 0 ls _ _ (lv_sub hl [2, 1, 0] rfl) hw h
set_option maxRecDepth 100000 in
set_option maxHeartbeats 4000000 in
theorem c_X10_count {l : Launch} {P : Wp} {E : State → Heap → Prop} (hW : Wok shC P E) {p1 : Int32} {M : Mem} {r : Int32} (h : f_X10_count p1 M = some r) : CT l shC P E yX10_count bX10_count 2 ((some .int)) 1 22 [.ref (P.2.2.1 0), .int p1] (some (.int r)) M M := by
  refine ct_of hW (by decide) (Nat.le_of_ble_eq_true rfl) (fun p e s m args below meth c C ls hl hw => ?_)
  have hx := C.1
  have hb := C.2.1
  replace hl : lv_has ls 2 [(0, .ref (P.2.2.1 0)), (1, .int p1)] := hl
  refine lv_iload_n hx hb dX10_count_0 rfl (lv_at hl 1 rfl) ?_
  by_cases c1 : p1 = 0
  · replace h := (if_pos c1).symm.trans h
    refine lv_tableIn (off := 59) (tgt := 60) hx hb dX10_count_1 (by rw [c1]; decide) (by rw [c1]; decide) (by rw [c1]; decide) (by decide) ?_
    refine lv_aload_n hx hb dX10_count_60 rfl (lv_at hl 0 rfl) ?_
    refine wgetR (t := 13) C hw flX10_49 (rfl : _ = some (0, 10)) rfl dX10_count_61 ?_
    refine wgetR (t := 14) C hw flX10_106 (rfl : _ = some (0, 1)) rfl dX10_count_64 ?_
    refine wgetI C hw flX10_210 (rfl : _ = some (0, 5)) dX10_count_67 ?_
    exact wretI_R C hw h dX10_count_70
  · replace h := (if_neg c1).symm.trans h
    by_cases c2 : p1 = 1
    · replace h := (if_pos c2).symm.trans h
      refine lv_tableIn (off := 70) (tgt := 71) hx hb dX10_count_1 (by rw [c2]; decide) (by rw [c2]; decide) (by rw [c2]; decide) (by decide) ?_
      refine lv_aload_n hx hb dX10_count_71 rfl (lv_at hl 0 rfl) ?_
      refine wgetR (t := 13) C hw flX10_49 (rfl : _ = some (0, 10)) rfl dX10_count_72 ?_
      refine wgetR (t := 14) C hw flX10_106 (rfl : _ = some (0, 1)) rfl dX10_count_75 ?_
      refine wgetI C hw flX10_416 (rfl : _ = some (0, 5)) dX10_count_78 ?_
      exact wretI_R C hw h dX10_count_81
    · replace h := (if_neg c2).symm.trans h
      by_cases c3 : p1 = 2
      · replace h := (if_pos c3).symm.trans h
        refine lv_tableIn (off := 81) (tgt := 82) hx hb dX10_count_1 (by rw [c3]; decide) (by rw [c3]; decide) (by rw [c3]; decide) (by decide) ?_
        refine lv_aload_n hx hb dX10_count_82 rfl (lv_at hl 0 rfl) ?_
        refine wgetR (t := 13) C hw flX10_49 (rfl : _ = some (0, 10)) rfl dX10_count_83 ?_
        refine wgetR (t := 14) C hw flX10_106 (rfl : _ = some (0, 1)) rfl dX10_count_86 ?_
        refine wgetI C hw flX10_419 (rfl : _ = some (0, 5)) dX10_count_89 ?_
        exact wretI_R C hw h dX10_count_92
      · replace h := (if_neg c3).symm.trans h
        by_cases c4 : p1 = 3
        · replace h := (if_pos c4).symm.trans h
          refine lv_tableIn (off := 92) (tgt := 93) hx hb dX10_count_1 (by rw [c4]; decide) (by rw [c4]; decide) (by rw [c4]; decide) (by decide) ?_
          refine lv_aload_n hx hb dX10_count_93 rfl (lv_at hl 0 rfl) ?_
          refine wgetR (t := 13) C hw flX10_49 (rfl : _ = some (0, 10)) rfl dX10_count_94 ?_
          refine wgetR (t := 14) C hw flX10_106 (rfl : _ = some (0, 1)) rfl dX10_count_97 ?_
          refine wgetI C hw flX10_421 (rfl : _ = some (0, 5)) dX10_count_100 ?_
          exact wretI_R C hw h dX10_count_103
        · replace h := (if_neg c4).symm.trans h
          by_cases c5 : p1 = 4
          · replace h := (if_pos c5).symm.trans h
            refine lv_tableIn (off := 103) (tgt := 104) hx hb dX10_count_1 (by rw [c5]; decide) (by rw [c5]; decide) (by rw [c5]; decide) (by decide) ?_
            refine lv_aload_n hx hb dX10_count_104 rfl (lv_at hl 0 rfl) ?_
            refine wgetR (t := 13) C hw flX10_49 (rfl : _ = some (0, 10)) rfl dX10_count_105 ?_
            refine wgetR (t := 14) C hw flX10_106 (rfl : _ = some (0, 1)) rfl dX10_count_108 ?_
            refine wgetI C hw flX10_424 (rfl : _ = some (0, 5)) dX10_count_111 ?_
            exact wretI_R C hw h dX10_count_114
          · replace h := (if_neg c5).symm.trans h
            by_cases c6 : p1 = 5
            · replace h := (if_pos c6).symm.trans h
              refine lv_tableIn (off := 114) (tgt := 115) hx hb dX10_count_1 (by rw [c6]; decide) (by rw [c6]; decide) (by rw [c6]; decide) (by decide) ?_
              refine lv_aload_n hx hb dX10_count_115 rfl (lv_at hl 0 rfl) ?_
              refine wgetR (t := 13) C hw flX10_49 (rfl : _ = some (0, 10)) rfl dX10_count_116 ?_
              refine wgetR (t := 14) C hw flX10_106 (rfl : _ = some (0, 1)) rfl dX10_count_119 ?_
              refine wgetI C hw flX10_237 (rfl : _ = some (0, 5)) dX10_count_122 ?_
              exact wretI_R C hw h dX10_count_125
            · replace h := (if_neg c6).symm.trans h
              by_cases c7 : p1 = 6
              · replace h := (if_pos c7).symm.trans h
                refine lv_tableIn (off := 125) (tgt := 126) hx hb dX10_count_1 (by rw [c7]; decide) (by rw [c7]; decide) (by rw [c7]; decide) (by decide) ?_
                refine lv_aload_n hx hb dX10_count_126 rfl (lv_at hl 0 rfl) ?_
                refine wgetR (t := 13) C hw flX10_49 (rfl : _ = some (0, 10)) rfl dX10_count_127 ?_
                refine wgetR (t := 14) C hw flX10_106 (rfl : _ = some (0, 1)) rfl dX10_count_130 ?_
                refine wgetI C hw flX10_427 (rfl : _ = some (0, 5)) dX10_count_133 ?_
                exact wretI_R C hw h dX10_count_136
              · replace h := (if_neg c7).symm.trans h
                by_cases c8 : p1 = 7
                · replace h := (if_pos c8).symm.trans h
                  refine lv_tableIn (off := 136) (tgt := 137) hx hb dX10_count_1 (by rw [c8]; decide) (by rw [c8]; decide) (by rw [c8]; decide) (by decide) ?_
                  refine lv_aload_n hx hb dX10_count_137 rfl (lv_at hl 0 rfl) ?_
                  refine wgetR (t := 13) C hw flX10_49 (rfl : _ = some (0, 10)) rfl dX10_count_138 ?_
                  refine wgetR (t := 20) C hw flX10_112 (rfl : _ = some (0, 1)) rfl dX10_count_141 ?_
                  refine wgetI C hw flX10_402 (rfl : _ = some (0, 0)) dX10_count_144 ?_
                  exact wretI_R C hw h dX10_count_147
                · replace h := (if_neg c8).symm.trans h
                  by_cases c9 : p1 = 8
                  · replace h := (if_pos c9).symm.trans h
                    refine lv_tableIn (off := 147) (tgt := 148) hx hb dX10_count_1 (by rw [c9]; decide) (by rw [c9]; decide) (by rw [c9]; decide) (by decide) ?_
                    refine lv_aload_n hx hb dX10_count_148 rfl (lv_at hl 0 rfl) ?_
                    refine wgetR (t := 13) C hw flX10_49 (rfl : _ = some (0, 10)) rfl dX10_count_149 ?_
                    refine wgetR (t := 14) C hw flX10_106 (rfl : _ = some (0, 1)) rfl dX10_count_152 ?_
                    refine wgetI C hw flX10_119 (rfl : _ = some (0, 5)) dX10_count_155 ?_
                    exact wretI_R C hw h dX10_count_158
                  · replace h := (if_neg c9).symm.trans h
                    by_cases c10 : p1 = 9
                    · replace h := (if_pos c10).symm.trans h
                      refine lv_tableIn (off := 158) (tgt := 159) hx hb dX10_count_1 (by rw [c10]; decide) (by rw [c10]; decide) (by rw [c10]; decide) (by decide) ?_
                      refine lv_aload_n hx hb dX10_count_159 rfl (lv_at hl 0 rfl) ?_
                      refine wgetR (t := 4) C hw flX10_28 (rfl : _ = some (0, 10)) rfl dX10_count_160 ?_
                      refine wgetI C hw flX10_89 (rfl : _ = some (0, 8)) dX10_count_163 ?_
                      exact wretI_R C hw h dX10_count_166
                    · replace h := (if_neg c10).symm.trans h
                      by_cases c11 : p1 = 10
                      · replace h := (if_pos c11).symm.trans h
                        refine lv_tableIn (off := 166) (tgt := 167) hx hb dX10_count_1 (by rw [c11]; decide) (by rw [c11]; decide) (by rw [c11]; decide) (by decide) ?_
                        refine lv_aload_n hx hb dX10_count_167 rfl (lv_at hl 0 rfl) ?_
                        obtain ⟨r12, e13, h⟩ := bnd_some h
                        refine wcallV1 (As := []) (rest := []) C hw (c_X10_slotsWithRows hW  e13) vlX10_430 ⟨Nat.le_of_ble_eq_true rfl, Nat.le_of_ble_eq_true rfl⟩ (rfl : _ = some (0, 10)) rfl rfl rfl hl.1 (Nat.le_of_ble_eq_true rfl) dX10_count_168 ⟨Nat.zero_le _, Nat.zero_le _⟩ (fun H locs hw => ?_)
                        exact wretI_R C hw h dX10_count_171
                      · replace h := (if_neg c11).symm.trans h
                        refine lv_tableOut (tgt := 172) hx hb dX10_count_1 (by have q0 := lv_neT (a := 0) c1 (by decide); have q1 := lv_neT (a := 1) c2 (by decide); have q2 := lv_neT (a := 2) c3 (by decide); have q3 := lv_neT (a := 3) c4 (by decide); have q4 := lv_neT (a := 4) c5 (by decide); have q5 := lv_neT (a := 5) c6 (by decide); have q6 := lv_neT (a := 6) c7 (by decide); have q7 := lv_neT (a := 7) c8 (by decide); have q8 := lv_neT (a := 8) c9 (by decide); have q9 := lv_neT (a := 9) c10 (by decide); have q10 := lv_neT (a := 10) c11 (by decide); omega) (by decide) ?_
                        refine lv_iconst (v := (-1)) hx hb dX10_count_172 (by decide) ?_
                        exact wretI_R C hw h dX10_count_173
theorem z_X10_hasImage {p0 : Int32} {M : Mem} : f_X10_hasImage p0 M = 0 ∨ f_X10_hasImage p0 M = 1 := by
  unfold f_X10_hasImage
  repeat' split
  all_goals first | exact Or.inl rfl | exact Or.inr rfl
set_option maxRecDepth 100000 in
set_option maxHeartbeats 4000000 in
theorem c_X10_hasImage {l : Launch} {P : Wp} {E : State → Heap → Prop} (hW : Wok shC P E) {p0 : Int32} {M : Mem} {r : Int32} (h : f_X10_hasImage p0 M = r) : CT l shC P E yX10_hasImage bX10_hasImage 1 ((some .boolean)) 0 0 [.int p0] (some (.int r)) M M := by
  refine ct_of hW (by decide) (Nat.le_of_ble_eq_true rfl) (fun p e s m args below meth c C ls hl hw => ?_)
  have hx := C.1
  have hb := C.2.1
  replace hl : lv_has ls 1 [(0, .int p0)] := hl
  refine lv_iload_n hx hb dX10_hasImage_0 rfl (lv_at hl 0 rfl) ?_
  refine lv_if_lt (tgt := 13) hx hb dX10_hasImage_1 (by decide) (fun c1 => ?_) (fun c1 => ?_)
  · replace h := (if_pos c1).symm.trans h
    refine lv_iconst (v := 0) hx hb dX10_hasImage_13 (by decide) ?_
    exact wretZ_T C hw (Or.inl rfl) h dX10_hasImage_14
  · replace h := (if_neg c1).symm.trans h
    refine lv_iload_n hx hb dX10_hasImage_4 rfl (lv_at hl 0 rfl) ?_
    refine lv_iconst (v := 3) hx hb dX10_hasImage_5 (by decide) ?_
    refine lv_icmp_ge (tgt := 13) hx hb dX10_hasImage_6 (by decide) (fun c2 => ?_) (fun c2 => ?_)
    · replace h := (if_pos c2).symm.trans h
      refine lv_iconst (v := 0) hx hb dX10_hasImage_13 (by decide) ?_
      exact wretZ_T C hw (Or.inl rfl) h dX10_hasImage_14
    · replace h := (if_neg c2).symm.trans h
      refine lv_iconst (v := 1) hx hb dX10_hasImage_9 (by decide) ?_
      refine lv_goto (tgt := 14) hx hb dX10_hasImage_10 (by decide) ?_
      exact wretZ_T C hw (Or.inr rfl) h dX10_hasImage_14
set_option maxRecDepth 100000 in
set_option maxHeartbeats 4000000 in
theorem c_X10_image {l : Launch} {P : Wp} {E : State → Heap → Prop} (hW : Wok shC P E) {p1 : Int32} {M : Mem} {r : Int32} {M' : Mem} (h : f_X10_image p1 M = some (r, M')) : CT l shC P E yX10_image bX10_image 2 ((some .int)) 3 106 [.ref (P.2.2.1 0), .int p1] (some (.int r)) M M' := by
  refine ct_of hW (by decide) (Nat.le_of_ble_eq_true rfl) (fun p e s m args below meth c C ls hl hw => ?_)
  have hx := C.1
  have hb := C.2.1
  replace hl : lv_has ls 2 [(0, .ref (P.2.2.1 0)), (1, .int p1)] := hl
  refine lv_iload_n hx hb dX10_image_0 rfl (lv_at hl 1 rfl) ?_
  refine wcallS1 (As := [.int p1]) (rest := []) C hw (c_X10_hasImage hW  rfl) slX10_433 ⟨Nat.le_of_ble_eq_true rfl, Nat.le_of_ble_eq_true rfl⟩ rfl rfl hl.1 (Nat.le_of_ble_eq_true rfl) dX10_image_1 ⟨Nat.zero_le _, Nat.zero_le _⟩ (fun H locs hw => ?_)
  refine lv_if_ne (tgt := 10) hx hb dX10_image_4 (by decide) (fun c1 => ?_) (fun c1 => ?_)
  · replace h := (if_neg c1).symm.trans h
    refine lv_aload_n hx hb dX10_image_10 rfl (lv_at hl 0 rfl) ?_
    refine wgetR (t := 1) C hw flX10_11 (rfl : _ = some (0, 10)) rfl dX10_image_11 ?_
    refine lv_iload_n hx hb dX10_image_14 rfl (lv_at hl 1 rfl) ?_
    obtain ⟨g2, h⟩ := grd h
    refine wqald5 C hw (rfl : _ = some (5, 3)) g2 dX10_image_15 ?_
    refine lv_aload_n hx hb dX10_image_16 rfl (lv_at hl 0 rfl) ?_
    refine wgetR (t := 13) C hw flX10_49 (rfl : _ = some (0, 10)) rfl dX10_image_17 ?_
    obtain ⟨M5, e4, h⟩ := bnd_some h
    refine wcallV0 (As := [.ref (P.2.2.1 13)]) (rest := []) C hw (c_X1_copyFrom hW (imgs_ho g2) (rfl : _ = some (0, 1)) e4) vlX10_436 ⟨Nat.le_of_ble_eq_true rfl, Nat.le_of_ble_eq_true rfl⟩ (imgs_ho g2) rfl rfl rfl hl.1 (Nat.le_of_ble_eq_true rfl) dX10_image_20 ⟨Nat.zero_le _, Nat.zero_le _⟩ (fun H locs hw => ?_)
    refine lv_aload_n hx hb dX10_image_23 rfl (lv_at hl 0 rfl) ?_
    refine wgetR (t := 2) C hw flX10_15 (rfl : _ = some (0, 10)) rfl dX10_image_24 ?_
    refine lv_iload_n hx hb dX10_image_27 rfl (lv_at hl 1 rfl) ?_
    refine lv_iconst (v := 1) hx hb dX10_image_28 (by decide) ?_
    obtain ⟨g7, h⟩ := grd h
    refine wzast C hw (rfl : _ = some (3, 3)) g7 dX10_image_29 (fun M6 eM6 H locs hw => ?_)
    replace h := letv_at eM6 h
    refine lv_iconst (v := 0) hx hb dX10_image_30 (by decide) ?_
    exact wretI_W C hw h dX10_image_31
  · replace h := (if_pos c1).symm.trans h
    refine lv_bipush (v := (-2)) hx hb dX10_image_7 (by decide) ?_
    exact wretI_W C hw h dX10_image_9
set_option maxRecDepth 100000 in
set_option maxHeartbeats 4000000 in
theorem c_X10_back {l : Launch} {P : Wp} {E : State → Heap → Prop} (hW : Wok shC P E) {p1 : Int32} {M : Mem} {r : Int32} {M' : Mem} (h : f_X10_back p1 M = some (r, M')) : CT l shC P E yX10_back bX10_back 2 ((some .int)) 3 106 [.ref (P.2.2.1 0), .int p1] (some (.int r)) M M' := by
  refine ct_of hW (by decide) (Nat.le_of_ble_eq_true rfl) (fun p e s m args below meth c C ls hl hw => ?_)
  have hx := C.1
  have hb := C.2.1
  replace hl : lv_has ls 2 [(0, .ref (P.2.2.1 0)), (1, .int p1)] := hl
  refine lv_iload_n hx hb dX10_back_0 rfl (lv_at hl 1 rfl) ?_
  refine wcallS1 (As := [.int p1]) (rest := []) C hw (c_X10_hasImage hW  rfl) slX10_433 ⟨Nat.le_of_ble_eq_true rfl, Nat.le_of_ble_eq_true rfl⟩ rfl rfl hl.1 (Nat.le_of_ble_eq_true rfl) dX10_back_1 ⟨Nat.zero_le _, Nat.zero_le _⟩ (fun H locs hw => ?_)
  refine lv_if_ne (tgt := 10) hx hb dX10_back_4 (by decide) (fun c1 => ?_) (fun c1 => ?_)
  · replace h := (if_neg c1).symm.trans h
    refine lv_aload_n hx hb dX10_back_10 rfl (lv_at hl 0 rfl) ?_
    refine wgetR (t := 2) C hw flX10_15 (rfl : _ = some (0, 10)) rfl dX10_back_11 ?_
    refine lv_iload_n hx hb dX10_back_14 rfl (lv_at hl 1 rfl) ?_
    obtain ⟨g2, h⟩ := grd h
    refine wzald C hw (rfl : _ = some (3, 3)) g2 dX10_back_15 ?_
    refine lv_if_ne (tgt := 22) hx hb dX10_back_16 (by decide) (fun c3 => ?_) (fun c3 => ?_)
    · replace h := (if_neg c3).symm.trans h
      refine lv_aload_n hx hb dX10_back_22 rfl (lv_at hl 0 rfl) ?_
      refine wgetR (t := 13) C hw flX10_49 (rfl : _ = some (0, 10)) rfl dX10_back_23 ?_
      refine lv_aload_n hx hb dX10_back_26 rfl (lv_at hl 0 rfl) ?_
      refine wgetR (t := 1) C hw flX10_11 (rfl : _ = some (0, 10)) rfl dX10_back_27 ?_
      refine lv_iload_n hx hb dX10_back_30 rfl (lv_at hl 1 rfl) ?_
      obtain ⟨g4, h⟩ := grd h
      refine wqald5 C hw (rfl : _ = some (5, 3)) g4 dX10_back_31 ?_
      obtain ⟨M7, e6, h⟩ := bnd_some h
      refine wcallV0 (As := [.ref (P.2.2.1 (rC 1 (ix p1)))]) (rest := []) C hw (c_X1_copyFrom hW (rfl : _ = some (0, 1)) (imgs_ho g4) e6) vlX10_436 ⟨Nat.le_of_ble_eq_true rfl, Nat.le_of_ble_eq_true rfl⟩ (rfl : _ = some (0, 1)) rfl rfl rfl hl.1 (Nat.le_of_ble_eq_true rfl) dX10_back_32 ⟨Nat.zero_le _, Nat.zero_le _⟩ (fun H locs hw => ?_)
      refine lv_aload_n hx hb dX10_back_35 rfl (lv_at hl 0 rfl) ?_
      refine lv_iconst (v := 0) hx hb dX10_back_36 (by decide) ?_
      refine wputZ C hw fpX10_77 (rfl : _ = some (0, 10)) rfl rfl dX10_back_37 (fun M8 eM8 H locs hw => ?_)
      replace h := letv_at eM8 h
      refine lv_iconst (v := 0) hx hb dX10_back_40 (by decide) ?_
      exact wretI_W C hw h dX10_back_41
    · replace h := (if_pos c3).symm.trans h
      refine lv_bipush (v := (-6)) hx hb dX10_back_19 (by decide) ?_
      exact wretI_W C hw h dX10_back_21
  · replace h := (if_pos c1).symm.trans h
    refine lv_bipush (v := (-2)) hx hb dX10_back_7 (by decide) ?_
    exact wretI_W C hw h dX10_back_9
set_option maxRecDepth 100000 in
set_option maxHeartbeats 4000000 in
theorem c_X10_row {l : Launch} {P : Wp} {E : State → Heap → Prop} (hW : Wok shC P E) {p1 : Int32} {p2 : Int32} {p3 : Int32} {M : Mem} {r : Int32} {M' : Mem} (h : f_X10_row p1 p2 p3 M = some (r, M')) : CT l shC P E yX10_row bX10_row 5 ((some .int)) 2 62 [.ref (P.2.2.1 0), .int p1, .int p2, .int p3] (some (.int r)) M M' := by
  refine ct_of hW (by decide) (Nat.le_of_ble_eq_true rfl) (fun p e s m args below meth c C ls hl hw => ?_)
  have hx := C.1
  have hb := C.2.1
  replace hl : lv_has ls 5 [(0, .ref (P.2.2.1 0)), (1, .int p1), (2, .int p2), (3, .int p3)] := hl
  refine lv_aload_n hx hb dX10_row_0 rfl (lv_at hl 0 rfl) ?_
  refine lv_iload_n hx hb dX10_row_1 rfl (lv_at hl 1 rfl) ?_
  refine wcallV1 (As := [.int p1]) (rest := []) C hw (c_X10_rowOf hW  rfl) vlX10_318 ⟨Nat.le_of_ble_eq_true rfl, Nat.le_of_ble_eq_true rfl⟩ (rfl : _ = some (0, 10)) rfl rfl rfl hl.1 (Nat.le_of_ble_eq_true rfl) dX10_row_2 ⟨Nat.zero_le _, Nat.zero_le _⟩ (fun H locs hw => ?_)
  cases e2 : f_X10_rowOf p1 M with
  | none =>
    replace h := optc_none e2 h
    refine lv_astoreN (lv' := [(4, .null), (0, .ref (P.2.2.1 0)), (1, .int p1), (2, .int p2), (3, .int p3)]) hx hb dX10_row_5 hl (by decide) rfl (fun ls hl => ?_)
    refine lv_aloadN hx hb dX10_row_7 (lv_at hl 0 rfl) ?_
    refine lv_ifnullN (tgt := 27) hx hb dX10_row_9 (by decide) ?_
    refine lv_bipush (v := (-2)) hx hb dX10_row_27 (by decide) ?_
    exact wretI_W C hw h dX10_row_29
  | some k1 =>
    replace h := optc_some e2 h
    refine lv_astore (lv' := [(4, .ref (P.2.2.1 k1)), (0, .ref (P.2.2.1 0)), (1, .int p1), (2, .int p2), (3, .int p3)]) hx hb dX10_row_5 hl (by decide) rfl (fun ls hl => ?_)
    refine lv_aload hx hb dX10_row_7 (lv_at hl 0 rfl) ?_
    refine lv_ifnull hx hb dX10_row_9 ?_
    refine lv_iload_n hx hb dX10_row_12 rfl (lv_at hl 3 rfl) ?_
    refine lv_if_lt (tgt := 27) hx hb dX10_row_13 (by decide) (fun c3 => ?_) (fun c3 => ?_)
    · replace h := (if_pos c3).symm.trans h
      refine lv_bipush (v := (-2)) hx hb dX10_row_27 (by decide) ?_
      exact wretI_W C hw h dX10_row_29
    · replace h := (if_neg c3).symm.trans h
      refine lv_iload_n hx hb dX10_row_16 rfl (lv_at hl 3 rfl) ?_
      refine lv_iconst (v := 4) hx hb dX10_row_17 (by decide) ?_
      refine lv_icmp_ge (tgt := 27) hx hb dX10_row_18 (by decide) (fun c4 => ?_) (fun c4 => ?_)
      · replace h := (if_pos c4).symm.trans h
        refine lv_bipush (v := (-2)) hx hb dX10_row_27 (by decide) ?_
        exact wretI_W C hw h dX10_row_29
      · replace h := (if_neg c4).symm.trans h
        refine lv_iload_n hx hb dX10_row_21 rfl (lv_at hl 4 rfl) ?_
        refine lv_bipush (v := 60) hx hb dX10_row_22 (by decide) ?_
        refine lv_icmp_le (tgt := 30) hx hb dX10_row_24 (by decide) (fun c5 => ?_) (fun c5 => ?_)
        · replace h := (if_pos c5).symm.trans h
          refine lv_iload_n hx hb dX10_row_30 rfl (lv_at hl 4 rfl) ?_
          refine lv_if_ge (tgt := 37) hx hb dX10_row_31 (by decide) (fun c6 => ?_) (fun c6 => ?_)
          · replace h := (if_pos c6).symm.trans h
            refine lv_aload hx hb dX10_row_37 (lv_at hl 0 rfl) ?_
            refine lv_iload_n hx hb dX10_row_39 rfl (lv_at hl 3 rfl) ?_
            refine lv_iload_n hx hb dX10_row_40 rfl (lv_at hl 4 rfl) ?_
            obtain ⟨M9, e8, h⟩ := bnd_some h
            refine wcallV0 (As := [.int p2, .int p3]) (rest := []) C hw (c_X7_make hW (rowOf_ho e2) e8) vlX10_438 ⟨Nat.le_of_ble_eq_true rfl, Nat.le_of_ble_eq_true rfl⟩ (rowOf_ho e2) rfl rfl rfl hl.1 (Nat.le_of_ble_eq_true rfl) dX10_row_41 ⟨Nat.zero_le _, Nat.zero_le _⟩ (fun H locs hw => ?_)
            refine lv_iconst (v := 0) hx hb dX10_row_44 (by decide) ?_
            exact wretI_W C hw h dX10_row_45
          · replace h := (if_neg c6).symm.trans h
            refine lv_bipush (v := (-3)) hx hb dX10_row_34 (by decide) ?_
            exact wretI_W C hw h dX10_row_36
        · replace h := (if_neg c5).symm.trans h
          refine lv_bipush (v := (-2)) hx hb dX10_row_27 (by decide) ?_
          exact wretI_W C hw h dX10_row_29
set_option maxRecDepth 100000 in
set_option maxHeartbeats 4000000 in
theorem c_X10_write {l : Launch} {P : Wp} {E : State → Heap → Prop} (hW : Wok shC P E) {p1 : Int32} {p2 : Int32} {p3 : Int64} {M : Mem} {r : Int32} {M' : Mem} (h : f_X10_write p1 p2 p3 M = some (r, M')) : CT l shC P E yX10_write bX10_write 6 ((some .int)) 2 45 [.ref (P.2.2.1 0), .int p1, .int p2, .long p3] (some (.int r)) M M' := by
  refine ct_of hW (by decide) (Nat.le_of_ble_eq_true rfl) (fun p e s m args below meth c C ls hl hw => ?_)
  have hx := C.1
  have hb := C.2.1
  replace hl : lv_has ls 6 [(0, .ref (P.2.2.1 0)), (1, .int p1), (2, .int p2), (3, .long p3)] := hl
  refine lv_aload_n hx hb dX10_write_0 rfl (lv_at hl 0 rfl) ?_
  refine lv_iload_n hx hb dX10_write_1 rfl (lv_at hl 1 rfl) ?_
  refine wcallV1 (As := [.int p1]) (rest := []) C hw (c_X10_rowOf hW  rfl) vlX10_318 ⟨Nat.le_of_ble_eq_true rfl, Nat.le_of_ble_eq_true rfl⟩ (rfl : _ = some (0, 10)) rfl rfl rfl hl.1 (Nat.le_of_ble_eq_true rfl) dX10_write_2 ⟨Nat.zero_le _, Nat.zero_le _⟩ (fun H locs hw => ?_)
  cases e2 : f_X10_rowOf p1 M with
  | none =>
    replace h := optc_none e2 h
    refine lv_astoreN (lv' := [(5, .null), (0, .ref (P.2.2.1 0)), (1, .int p1), (2, .int p2), (3, .long p3)]) hx hb dX10_write_5 hl (by decide) rfl (fun ls hl => ?_)
    refine lv_aloadN hx hb dX10_write_7 (lv_at hl 0 rfl) ?_
    refine lv_ifnonnullN hx hb dX10_write_9 ?_
    refine lv_bipush (v := (-2)) hx hb dX10_write_12 (by decide) ?_
    exact wretI_W C hw h dX10_write_14
  | some k1 =>
    replace h := optc_some e2 h
    refine lv_astore (lv' := [(5, .ref (P.2.2.1 k1)), (0, .ref (P.2.2.1 0)), (1, .int p1), (2, .int p2), (3, .long p3)]) hx hb dX10_write_5 hl (by decide) rfl (fun ls hl => ?_)
    refine lv_aload hx hb dX10_write_7 (lv_at hl 0 rfl) ?_
    refine lv_ifnonnull (tgt := 15) hx hb dX10_write_9 (by decide) ?_
    refine lv_aload hx hb dX10_write_15 (lv_at hl 0 rfl) ?_
    refine wgetI C hw flX10_339 (rowOf_ho e2) dX10_write_17 ?_
    refine lv_if_ne (tgt := 26) hx hb dX10_write_20 (by decide) (fun c3 => ?_) (fun c3 => ?_)
    · replace h := (if_neg c3).symm.trans h
      refine lv_aload hx hb dX10_write_26 (lv_at hl 0 rfl) ?_
      refine lv_iload_n hx hb dX10_write_28 rfl (lv_at hl 3 rfl) ?_
      refine lv_lload_n hx hb dX10_write_29 rfl (lv_at hl 4 rfl) ?_
      obtain ⟨r4, M6, e5, h⟩ := bnd2_some h
      refine wcallV1 (As := [.int p2, .long p3]) (rest := []) C hw (c_X7_put hW (rowOf_ho e2) e5) vlX10_442 ⟨Nat.le_of_ble_eq_true rfl, Nat.le_of_ble_eq_true rfl⟩ (rowOf_ho e2) rfl rfl rfl hl.1 (Nat.le_of_ble_eq_true rfl) dX10_write_30 ⟨Nat.zero_le _, Nat.zero_le _⟩ (fun H locs hw => ?_)
      refine lv_if_eq (tgt := 40) hx hb dX10_write_33 (by decide) (fun c7 => ?_) (fun c7 => ?_)
      · replace h := (if_pos c7).symm.trans h
        refine lv_bipush (v := (-7)) hx hb dX10_write_40 (by decide) ?_
        exact wretI_W C hw h dX10_write_42
      · replace h := (if_neg c7).symm.trans h
        refine lv_iconst (v := 0) hx hb dX10_write_36 (by decide) ?_
        refine lv_goto (tgt := 42) hx hb dX10_write_37 (by decide) ?_
        exact wretI_W C hw h dX10_write_42
    · replace h := (if_pos c3).symm.trans h
      refine lv_bipush (v := (-6)) hx hb dX10_write_23 (by decide) ?_
      exact wretI_W C hw h dX10_write_25
set_option maxRecDepth 100000 in
set_option maxHeartbeats 4000000 in
theorem c_X10_paste {l : Launch} {P : Wp} {E : State → Heap → Prop} (hW : Wok shC P E) {p1 : Int32} {p2 : Int32} {p3 : Int32} {p4 : Int32} {p5 : Int32} {M : Mem} {r : Int32} {M' : Mem} (h : f_X10_paste p1 p2 p3 p4 p5 M = some (r, M')) : CT l shC P E yX10_paste bX10_paste 8 ((some .int)) 1 64 [.ref (P.2.2.1 0), .int p1, .int p2, .int p3, .int p4, .int p5] (some (.int r)) M M' := by
  refine ct_of hW (by decide) (Nat.le_of_ble_eq_true rfl) (fun p e s m args below meth c C ls hl hw => ?_)
  have hx := C.1
  have hb := C.2.1
  replace hl : lv_has ls 8 [(0, .ref (P.2.2.1 0)), (1, .int p1), (2, .int p2), (3, .int p3), (4, .int p4), (5, .int p5)] := hl
  refine lv_aload_n hx hb dX10_paste_0 rfl (lv_at hl 0 rfl) ?_
  refine lv_iload_n hx hb dX10_paste_1 rfl (lv_at hl 1 rfl) ?_
  refine wcallV1 (As := [.int p1]) (rest := []) C hw (c_X10_rowOf hW  rfl) vlX10_318 ⟨Nat.le_of_ble_eq_true rfl, Nat.le_of_ble_eq_true rfl⟩ (rfl : _ = some (0, 10)) rfl rfl rfl hl.1 (Nat.le_of_ble_eq_true rfl) dX10_paste_2 ⟨Nat.zero_le _, Nat.zero_le _⟩ (fun H locs hw => ?_)
  cases e2 : f_X10_rowOf p1 M with
  | none =>
    replace h := optc_none e2 h
    refine lv_astoreN (lv' := [(6, .null), (0, .ref (P.2.2.1 0)), (1, .int p1), (2, .int p2), (3, .int p3), (4, .int p4), (5, .int p5)]) hx hb dX10_paste_5 hl (by decide) rfl (fun ls hl => ?_)
    refine lv_aload_n hx hb dX10_paste_7 rfl (lv_at hl 1 rfl) ?_
    refine lv_iload_n hx hb dX10_paste_8 rfl (lv_at hl 4 rfl) ?_
    refine wcallV1 (As := [.int p3]) (rest := []) C hw (c_X10_rowOf hW  rfl) vlX10_318 ⟨Nat.le_of_ble_eq_true rfl, Nat.le_of_ble_eq_true rfl⟩ (rfl : _ = some (0, 10)) rfl rfl rfl hl.1 (Nat.le_of_ble_eq_true rfl) dX10_paste_9 ⟨Nat.zero_le _, Nat.zero_le _⟩ (fun H locs hw => ?_)
    cases e4 : f_X10_rowOf p3 M with
    | none =>
      replace h := optc_none e4 h
      refine lv_astoreN (lv' := [(7, .null), (6, .null), (0, .ref (P.2.2.1 0)), (1, .int p1), (2, .int p2), (3, .int p3), (4, .int p4), (5, .int p5)]) hx hb dX10_paste_12 hl (by decide) rfl (fun ls hl => ?_)
      refine lv_aloadN hx hb dX10_paste_14 (lv_at hl 1 rfl) ?_
      refine lv_ifnullN (tgt := 24) hx hb dX10_paste_16 (by decide) ?_
      refine lv_bipush (v := (-2)) hx hb dX10_paste_24 (by decide) ?_
      exact wretI_W C hw h dX10_paste_26
    | some k3 =>
      replace h := optc_some e4 h
      refine lv_astore (lv' := [(7, .ref (P.2.2.1 k3)), (6, .null), (0, .ref (P.2.2.1 0)), (1, .int p1), (2, .int p2), (3, .int p3), (4, .int p4), (5, .int p5)]) hx hb dX10_paste_12 hl (by decide) rfl (fun ls hl => ?_)
      refine lv_aloadN hx hb dX10_paste_14 (lv_at hl 1 rfl) ?_
      refine lv_ifnullN (tgt := 24) hx hb dX10_paste_16 (by decide) ?_
      refine lv_bipush (v := (-2)) hx hb dX10_paste_24 (by decide) ?_
      exact wretI_W C hw h dX10_paste_26
  | some k1 =>
    replace h := optc_some e2 h
    refine lv_astore (lv' := [(6, .ref (P.2.2.1 k1)), (0, .ref (P.2.2.1 0)), (1, .int p1), (2, .int p2), (3, .int p3), (4, .int p4), (5, .int p5)]) hx hb dX10_paste_5 hl (by decide) rfl (fun ls hl => ?_)
    refine lv_aload_n hx hb dX10_paste_7 rfl (lv_at hl 1 rfl) ?_
    refine lv_iload_n hx hb dX10_paste_8 rfl (lv_at hl 4 rfl) ?_
    refine wcallV1 (As := [.int p3]) (rest := []) C hw (c_X10_rowOf hW  rfl) vlX10_318 ⟨Nat.le_of_ble_eq_true rfl, Nat.le_of_ble_eq_true rfl⟩ (rfl : _ = some (0, 10)) rfl rfl rfl hl.1 (Nat.le_of_ble_eq_true rfl) dX10_paste_9 ⟨Nat.zero_le _, Nat.zero_le _⟩ (fun H locs hw => ?_)
    cases e6 : f_X10_rowOf p3 M with
    | none =>
      replace h := optc_none e6 h
      refine lv_astoreN (lv' := [(7, .null), (6, .ref (P.2.2.1 k1)), (0, .ref (P.2.2.1 0)), (1, .int p1), (2, .int p2), (3, .int p3), (4, .int p4), (5, .int p5)]) hx hb dX10_paste_12 hl (by decide) rfl (fun ls hl => ?_)
      refine lv_aload hx hb dX10_paste_14 (lv_at hl 1 rfl) ?_
      refine lv_ifnull hx hb dX10_paste_16 ?_
      refine lv_aloadN hx hb dX10_paste_19 (lv_at hl 0 rfl) ?_
      refine lv_ifnonnullN hx hb dX10_paste_21 ?_
      refine lv_bipush (v := (-2)) hx hb dX10_paste_24 (by decide) ?_
      exact wretI_W C hw h dX10_paste_26
    | some k5 =>
      replace h := optc_some e6 h
      refine lv_astore (lv' := [(7, .ref (P.2.2.1 k5)), (6, .ref (P.2.2.1 k1)), (0, .ref (P.2.2.1 0)), (1, .int p1), (2, .int p2), (3, .int p3), (4, .int p4), (5, .int p5)]) hx hb dX10_paste_12 hl (by decide) rfl (fun ls hl => ?_)
      refine lv_aload hx hb dX10_paste_14 (lv_at hl 1 rfl) ?_
      refine lv_ifnull hx hb dX10_paste_16 ?_
      refine lv_aload hx hb dX10_paste_19 (lv_at hl 0 rfl) ?_
      refine lv_ifnonnull (tgt := 27) hx hb dX10_paste_21 (by decide) ?_
      refine lv_aload hx hb dX10_paste_27 (lv_at hl 1 rfl) ?_
      refine wgetI C hw flX10_339 (rowOf_ho e2) dX10_paste_29 ?_
      refine lv_if_eq (tgt := 43) hx hb dX10_paste_32 (by decide) (fun c7 => ?_) (fun c7 => ?_)
      · replace h := (if_pos c7).symm.trans h
        refine lv_bipush (v := (-6)) hx hb dX10_paste_43 (by decide) ?_
        exact wretI_W C hw h dX10_paste_45
      · replace h := (if_neg c7).symm.trans h
        refine lv_aload hx hb dX10_paste_35 (lv_at hl 0 rfl) ?_
        refine wgetI C hw flX10_339 (rowOf_ho e6) dX10_paste_37 ?_
        refine lv_if_ne (tgt := 46) hx hb dX10_paste_40 (by decide) (fun c8 => ?_) (fun c8 => ?_)
        · replace h := (if_neg c8).symm.trans h
          refine lv_aload hx hb dX10_paste_46 (lv_at hl 1 rfl) ?_
          refine wgetI C hw flX10_446 (rowOf_ho e2) dX10_paste_48 ?_
          refine lv_aload hx hb dX10_paste_51 (lv_at hl 0 rfl) ?_
          refine wgetI C hw flX10_446 (rowOf_ho e6) dX10_paste_53 ?_
          refine lv_icmp_eq (tgt := 62) hx hb dX10_paste_56 (by decide) (fun c9 => ?_) (fun c9 => ?_)
          · replace h := (if_pos c9).symm.trans h
            refine lv_aload hx hb dX10_paste_62 (lv_at hl 1 rfl) ?_
            refine lv_iload_n hx hb dX10_paste_64 rfl (lv_at hl 4 rfl) ?_
            refine lv_iload hx hb dX10_paste_65 (lv_at hl 7 rfl) ?_
            refine wcallV1 (As := [.int p2, .int p5]) (rest := []) C hw (c_X7_holds hW (rowOf_ho e2) rfl) vlX10_449 ⟨Nat.le_of_ble_eq_true rfl, Nat.le_of_ble_eq_true rfl⟩ (rowOf_ho e2) rfl rfl rfl hl.1 (Nat.le_of_ble_eq_true rfl) dX10_paste_67 ⟨Nat.zero_le _, Nat.zero_le _⟩ (fun H locs hw => ?_)
            refine lv_if_eq (tgt := 85) hx hb dX10_paste_70 (by decide) (fun c10 => ?_) (fun c10 => ?_)
            · replace h := (if_pos c10).symm.trans h
              refine lv_bipush (v := (-7)) hx hb dX10_paste_85 (by decide) ?_
              exact wretI_W C hw h dX10_paste_87
            · replace h := (if_neg c10).symm.trans h
              refine lv_aload hx hb dX10_paste_73 (lv_at hl 0 rfl) ?_
              refine lv_iload hx hb dX10_paste_75 (lv_at hl 6 rfl) ?_
              refine lv_iload hx hb dX10_paste_77 (lv_at hl 7 rfl) ?_
              refine wcallV1 (As := [.int p4, .int p5]) (rest := []) C hw (c_X7_holds hW (rowOf_ho e6) rfl) vlX10_449 ⟨Nat.le_of_ble_eq_true rfl, Nat.le_of_ble_eq_true rfl⟩ (rowOf_ho e6) rfl rfl rfl hl.1 (Nat.le_of_ble_eq_true rfl) dX10_paste_79 ⟨Nat.zero_le _, Nat.zero_le _⟩ (fun H locs hw => ?_)
              refine lv_if_ne (tgt := 88) hx hb dX10_paste_82 (by decide) (fun c11 => ?_) (fun c11 => ?_)
              · replace h := (if_neg c11).symm.trans h
                refine lv_aload hx hb dX10_paste_88 (lv_at hl 1 rfl) ?_
                refine wgetR (t := (rC k1 3)) C hw flX10_452 (rowOf_ho e2) rfl dX10_paste_90 ?_
                refine lv_iload_n hx hb dX10_paste_93 rfl (lv_at hl 4 rfl) ?_
                refine lv_aload hx hb dX10_paste_94 (lv_at hl 0 rfl) ?_
                refine wgetR (t := (rC k5 3)) C hw flX10_452 (rowOf_ho e6) rfl dX10_paste_96 ?_
                refine lv_iload hx hb dX10_paste_99 (lv_at hl 6 rfl) ?_
                refine lv_iload hx hb dX10_paste_101 (lv_at hl 7 rfl) ?_
                obtain ⟨g13, h⟩ := grd h
                obtain ⟨g14, h⟩ := grd h
                refine wcopyL C hw (refC (k := 3) (rowOf_ho e2) rfl : _ = some (4, 60)) (refC (k := 3) (rowOf_ho e6) rfl : _ = some (4, 60)) alX10_456 g13 g14 hl.1 (Nat.le_of_ble_eq_true rfl) (Nat.le_of_ble_eq_true rfl) dX10_paste_103 (fun M12 eM12 H locs hw => ?_)
                replace h := letv_at eM12 h
                refine lv_iconst (v := 0) hx hb dX10_paste_106 (by decide) ?_
                exact wretI_W C hw h dX10_paste_107
              · replace h := (if_pos c11).symm.trans h
                refine lv_bipush (v := (-7)) hx hb dX10_paste_85 (by decide) ?_
                exact wretI_W C hw h dX10_paste_87
          · replace h := (if_neg c9).symm.trans h
            refine lv_bipush (v := (-8)) hx hb dX10_paste_59 (by decide) ?_
            exact wretI_W C hw h dX10_paste_61
        · replace h := (if_pos c8).symm.trans h
          refine lv_bipush (v := (-6)) hx hb dX10_paste_43 (by decide) ?_
          exact wretI_W C hw h dX10_paste_45
