theorem q_118 : Cond.initialized "TeaspoonSalonLaw" ∈ lw_good := ts_gd (List.mem_of_getElem? (i := 118) (by decide +kernel)) (by decide +kernel)
theorem q_1087 : Cond.static yL_addSpoon ∈ lw_good := ts_gd (List.mem_of_getElem? (i := 1087) (by decide +kernel)) (by decide +kernel)
theorem q_1088 : Cond.codeWith yL_addSpoon cL_addSpoon 5 (some .int) [(0, 10, 13, 13), (0, 10, 17, 15)] ∈ lw_good := ts_gd (List.mem_of_getElem? (i := 1088) (by decide +kernel)) (by decide +kernel)
theorem q_1089 : Cond.classLink "TeaspoonSalonLaw" 13 "java/lang/IllegalArgumentException" ∈ lw_good := ts_gd (List.mem_of_getElem? (i := 1089) (by decide +kernel)) (by decide +kernel)
theorem q_1090 : Cond.classLink "TeaspoonSalonLaw" 15 "java/lang/IllegalStateException" ∈ lw_good := ts_gd (List.mem_of_getElem? (i := 1090) (by decide +kernel)) (by decide +kernel)
theorem q_1091 : Cond.methodLink "TeaspoonSalonLaw" 7 ⟨"TeaspoonSalon", "addSpoon", "(II)I"⟩ ∈ lw_good := ts_gd (List.mem_of_getElem? (i := 1091) (by decide +kernel)) (by decide +kernel)
theorem q_1092 : Cond.instanceMethod yX11_addSpoon ∈ lw_good := ts_gd (List.mem_of_getElem? (i := 1092) (by decide +kernel)) (by decide +kernel)
theorem q_1093 : Cond.selects yX11_addSpoon.cls yX11_addSpoon yX11_addSpoon ∈ lw_good := ts_gd (List.mem_of_getElem? (i := 1093) (by decide +kernel)) (by decide +kernel)
theorem q_1094 : Cond.code yX11_addSpoon cX11_addSpoon 3 (some .int) ∈ lw_good := ts_gd (List.mem_of_getElem? (i := 1094) (by decide +kernel)) (by decide +kernel)
theorem q_1395 : Cond.static yL_propose ∈ lw_good := ts_gd (List.mem_of_getElem? (i := 1395) (by decide +kernel)) (by decide +kernel)
theorem q_1396 : Cond.codeWith yL_propose cL_propose 4 (some .int) [(0, 9, 12, 13), (0, 9, 15, 15)] ∈ lw_good := ts_gd (List.mem_of_getElem? (i := 1396) (by decide +kernel)) (by decide +kernel)
theorem q_1397 : Cond.methodLink "TeaspoonSalonLaw" 17 ⟨"TeaspoonSalon", "propose", "(I)I"⟩ ∈ lw_good := ts_gd (List.mem_of_getElem? (i := 1397) (by decide +kernel)) (by decide +kernel)
theorem q_1398 : Cond.instanceMethod yX11_propose ∈ lw_good := ts_gd (List.mem_of_getElem? (i := 1398) (by decide +kernel)) (by decide +kernel)
theorem q_1399 : Cond.selects yX11_propose.cls yX11_propose yX11_propose ∈ lw_good := ts_gd (List.mem_of_getElem? (i := 1399) (by decide +kernel)) (by decide +kernel)
theorem q_1400 : Cond.code yX11_propose cX11_propose 2 (some .int) ∈ lw_good := ts_gd (List.mem_of_getElem? (i := 1400) (by decide +kernel)) (by decide +kernel)
theorem q_1404 : Cond.static yL_moveMain ∈ lw_good := ts_gd (List.mem_of_getElem? (i := 1404) (by decide +kernel)) (by decide +kernel)
theorem q_1405 : Cond.codeWith yL_moveMain cL_moveMain 4 (some .int) [(0, 9, 12, 24), (0, 9, 15, 26)] ∈ lw_good := ts_gd (List.mem_of_getElem? (i := 1405) (by decide +kernel)) (by decide +kernel)
theorem q_1406 : Cond.classLink "TeaspoonSalonLaw" 24 "java/util/NoSuchElementException" ∈ lw_good := ts_gd (List.mem_of_getElem? (i := 1406) (by decide +kernel)) (by decide +kernel)
theorem q_1407 : Cond.classLink "TeaspoonSalonLaw" 26 "java/lang/UnsupportedOperationException" ∈ lw_good := ts_gd (List.mem_of_getElem? (i := 1407) (by decide +kernel)) (by decide +kernel)
theorem q_1408 : Cond.methodLink "TeaspoonSalonLaw" 21 ⟨"TeaspoonSalon", "moveMain", "(I)I"⟩ ∈ lw_good := ts_gd (List.mem_of_getElem? (i := 1408) (by decide +kernel)) (by decide +kernel)
theorem q_1409 : Cond.instanceMethod yX11_moveMain ∈ lw_good := ts_gd (List.mem_of_getElem? (i := 1409) (by decide +kernel)) (by decide +kernel)
theorem q_1410 : Cond.selects yX11_moveMain.cls yX11_moveMain yX11_moveMain ∈ lw_good := ts_gd (List.mem_of_getElem? (i := 1410) (by decide +kernel)) (by decide +kernel)
theorem q_1411 : Cond.code yX11_moveMain cX11_moveMain 2 (some .int) ∈ lw_good := ts_gd (List.mem_of_getElem? (i := 1411) (by decide +kernel)) (by decide +kernel)
theorem q_1415 : Cond.static yL_moveAmendment ∈ lw_good := ts_gd (List.mem_of_getElem? (i := 1415) (by decide +kernel)) (by decide +kernel)
theorem q_1416 : Cond.codeWith yL_moveAmendment cL_moveAmendment 4 (some .int) [(0, 9, 12, 13), (0, 9, 15, 26)] ∈ lw_good := ts_gd (List.mem_of_getElem? (i := 1416) (by decide +kernel)) (by decide +kernel)
theorem q_1417 : Cond.methodLink "TeaspoonSalonLaw" 28 ⟨"TeaspoonSalon", "moveAmendment", "(I)I"⟩ ∈ lw_good := ts_gd (List.mem_of_getElem? (i := 1417) (by decide +kernel)) (by decide +kernel)
theorem q_1418 : Cond.instanceMethod yX11_moveAmendment ∈ lw_good := ts_gd (List.mem_of_getElem? (i := 1418) (by decide +kernel)) (by decide +kernel)
theorem q_1419 : Cond.selects yX11_moveAmendment.cls yX11_moveAmendment yX11_moveAmendment ∈ lw_good := ts_gd (List.mem_of_getElem? (i := 1419) (by decide +kernel)) (by decide +kernel)
theorem q_1420 : Cond.code yX11_moveAmendment cX11_moveAmendment 2 (some .int) ∈ lw_good := ts_gd (List.mem_of_getElem? (i := 1420) (by decide +kernel)) (by decide +kernel)
theorem q_1424 : Cond.static yL_movePostponement ∈ lw_good := ts_gd (List.mem_of_getElem? (i := 1424) (by decide +kernel)) (by decide +kernel)
theorem q_1425 : Cond.codeWith yL_movePostponement cL_movePostponement 3 (some .int) [(0, 8, 11, 26)] ∈ lw_good := ts_gd (List.mem_of_getElem? (i := 1425) (by decide +kernel)) (by decide +kernel)
theorem q_1426 : Cond.methodLink "TeaspoonSalonLaw" 31 ⟨"TeaspoonSalon", "movePostponement", "()I"⟩ ∈ lw_good := ts_gd (List.mem_of_getElem? (i := 1426) (by decide +kernel)) (by decide +kernel)
theorem q_1427 : Cond.instanceMethod yX11_movePostponement ∈ lw_good := ts_gd (List.mem_of_getElem? (i := 1427) (by decide +kernel)) (by decide +kernel)
theorem q_1428 : Cond.selects yX11_movePostponement.cls yX11_movePostponement yX11_movePostponement ∈ lw_good := ts_gd (List.mem_of_getElem? (i := 1428) (by decide +kernel)) (by decide +kernel)
theorem q_1429 : Cond.code yX11_movePostponement cX11_movePostponement 1 (some .int) ∈ lw_good := ts_gd (List.mem_of_getElem? (i := 1429) (by decide +kernel)) (by decide +kernel)
theorem q_1433 : Cond.static yL_moveClosure ∈ lw_good := ts_gd (List.mem_of_getElem? (i := 1433) (by decide +kernel)) (by decide +kernel)
theorem q_1434 : Cond.codeWith yL_moveClosure cL_moveClosure 3 (some .int) [(0, 8, 11, 26)] ∈ lw_good := ts_gd (List.mem_of_getElem? (i := 1434) (by decide +kernel)) (by decide +kernel)
theorem q_1435 : Cond.methodLink "TeaspoonSalonLaw" 35 ⟨"TeaspoonSalon", "moveClosure", "()I"⟩ ∈ lw_good := ts_gd (List.mem_of_getElem? (i := 1435) (by decide +kernel)) (by decide +kernel)
theorem q_1436 : Cond.instanceMethod yX11_moveClosure ∈ lw_good := ts_gd (List.mem_of_getElem? (i := 1436) (by decide +kernel)) (by decide +kernel)
theorem q_1437 : Cond.selects yX11_moveClosure.cls yX11_moveClosure yX11_moveClosure ∈ lw_good := ts_gd (List.mem_of_getElem? (i := 1437) (by decide +kernel)) (by decide +kernel)
theorem q_1438 : Cond.code yX11_moveClosure cX11_moveClosure 1 (some .int) ∈ lw_good := ts_gd (List.mem_of_getElem? (i := 1438) (by decide +kernel)) (by decide +kernel)
theorem q_1442 : Cond.static yL_moveAdjournment ∈ lw_good := ts_gd (List.mem_of_getElem? (i := 1442) (by decide +kernel)) (by decide +kernel)
theorem q_1443 : Cond.codeWith yL_moveAdjournment cL_moveAdjournment 3 (some .int) [(0, 8, 11, 26)] ∈ lw_good := ts_gd (List.mem_of_getElem? (i := 1443) (by decide +kernel)) (by decide +kernel)
theorem q_1444 : Cond.methodLink "TeaspoonSalonLaw" 38 ⟨"TeaspoonSalon", "moveAdjournment", "()I"⟩ ∈ lw_good := ts_gd (List.mem_of_getElem? (i := 1444) (by decide +kernel)) (by decide +kernel)
theorem q_1445 : Cond.instanceMethod yX11_moveAdjournment ∈ lw_good := ts_gd (List.mem_of_getElem? (i := 1445) (by decide +kernel)) (by decide +kernel)
theorem q_1446 : Cond.selects yX11_moveAdjournment.cls yX11_moveAdjournment yX11_moveAdjournment ∈ lw_good := ts_gd (List.mem_of_getElem? (i := 1446) (by decide +kernel)) (by decide +kernel)
theorem q_1447 : Cond.code yX11_moveAdjournment cX11_moveAdjournment 1 (some .int) ∈ lw_good := ts_gd (List.mem_of_getElem? (i := 1447) (by decide +kernel)) (by decide +kernel)
theorem q_1451 : Cond.static yL_speak ∈ lw_good := ts_gd (List.mem_of_getElem? (i := 1451) (by decide +kernel)) (by decide +kernel)
theorem q_1452 : Cond.codeWith yL_speak cL_speak 4 (some .int) [(0, 9, 12, 44), (0, 9, 15, 15), (0, 9, 18, 26)] ∈ lw_good := ts_gd (List.mem_of_getElem? (i := 1452) (by decide +kernel)) (by decide +kernel)
theorem q_1453 : Cond.classLink "TeaspoonSalonLaw" 44 "java/lang/IndexOutOfBoundsException" ∈ lw_good := ts_gd (List.mem_of_getElem? (i := 1453) (by decide +kernel)) (by decide +kernel)
theorem q_1456 : Cond.methodLink "TeaspoonSalonLaw" 41 ⟨"TeaspoonSalon", "speak", "(I)I"⟩ ∈ lw_good := ts_gd (List.mem_of_getElem? (i := 1456) (by decide +kernel)) (by decide +kernel)
theorem q_1457 : Cond.instanceMethod yX11_speak ∈ lw_good := ts_gd (List.mem_of_getElem? (i := 1457) (by decide +kernel)) (by decide +kernel)
theorem q_1458 : Cond.selects yX11_speak.cls yX11_speak yX11_speak ∈ lw_good := ts_gd (List.mem_of_getElem? (i := 1458) (by decide +kernel)) (by decide +kernel)
theorem q_1459 : Cond.code yX11_speak cX11_speak 2 (some .int) ∈ lw_good := ts_gd (List.mem_of_getElem? (i := 1459) (by decide +kernel)) (by decide +kernel)
theorem q_1463 : Cond.static yL_vote ∈ lw_good := ts_gd (List.mem_of_getElem? (i := 1463) (by decide +kernel)) (by decide +kernel)
theorem q_1464 : Cond.codeWith yL_vote cL_vote 3 (some .int) [(0, 15, 18, 24)] ∈ lw_good := ts_gd (List.mem_of_getElem? (i := 1464) (by decide +kernel)) (by decide +kernel)
theorem q_1465 : Cond.methodLink "TeaspoonSalonLaw" 46 ⟨"TeaspoonSalon", "vote", "()Z"⟩ ∈ lw_good := ts_gd (List.mem_of_getElem? (i := 1465) (by decide +kernel)) (by decide +kernel)
theorem q_1466 : Cond.instanceMethod yX11_vote ∈ lw_good := ts_gd (List.mem_of_getElem? (i := 1466) (by decide +kernel)) (by decide +kernel)
theorem q_1467 : Cond.selects yX11_vote.cls yX11_vote yX11_vote ∈ lw_good := ts_gd (List.mem_of_getElem? (i := 1467) (by decide +kernel)) (by decide +kernel)
theorem q_1468 : Cond.code yX11_vote cX11_vote 1 (some .boolean) ∈ lw_good := ts_gd (List.mem_of_getElem? (i := 1468) (by decide +kernel)) (by decide +kernel)
theorem q_1472 : Cond.static yL_spill ∈ lw_good := ts_gd (List.mem_of_getElem? (i := 1472) (by decide +kernel)) (by decide +kernel)
theorem q_1473 : Cond.codeWith yL_spill cL_spill 6 (some .int) [(0, 12, 15, 44), (0, 12, 19, 13)] ∈ lw_good := ts_gd (List.mem_of_getElem? (i := 1473) (by decide +kernel)) (by decide +kernel)
theorem q_1474 : Cond.methodLink "TeaspoonSalonLaw" 50 ⟨"TeaspoonSalon", "spill", "(III)I"⟩ ∈ lw_good := ts_gd (List.mem_of_getElem? (i := 1474) (by decide +kernel)) (by decide +kernel)
theorem q_1475 : Cond.instanceMethod yX11_spill ∈ lw_good := ts_gd (List.mem_of_getElem? (i := 1475) (by decide +kernel)) (by decide +kernel)
theorem q_1476 : Cond.selects yX11_spill.cls yX11_spill yX11_spill ∈ lw_good := ts_gd (List.mem_of_getElem? (i := 1476) (by decide +kernel)) (by decide +kernel)
theorem q_1477 : Cond.code yX11_spill cX11_spill 4 (some .int) ∈ lw_good := ts_gd (List.mem_of_getElem? (i := 1477) (by decide +kernel)) (by decide +kernel)
theorem q_1481 : Cond.static yL_mop ∈ lw_good := ts_gd (List.mem_of_getElem? (i := 1481) (by decide +kernel)) (by decide +kernel)
theorem q_1482 : Cond.codeWith yL_mop cL_mop 5 (some .int) [(0, 10, 13, 44), (0, 10, 17, 15)] ∈ lw_good := ts_gd (List.mem_of_getElem? (i := 1482) (by decide +kernel)) (by decide +kernel)
theorem q_1483 : Cond.methodLink "TeaspoonSalonLaw" 54 ⟨"TeaspoonSalon", "mop", "(II)I"⟩ ∈ lw_good := ts_gd (List.mem_of_getElem? (i := 1483) (by decide +kernel)) (by decide +kernel)
theorem q_1484 : Cond.instanceMethod yX11_mop ∈ lw_good := ts_gd (List.mem_of_getElem? (i := 1484) (by decide +kernel)) (by decide +kernel)
theorem q_1485 : Cond.selects yX11_mop.cls yX11_mop yX11_mop ∈ lw_good := ts_gd (List.mem_of_getElem? (i := 1485) (by decide +kernel)) (by decide +kernel)
theorem q_1486 : Cond.code yX11_mop cX11_mop 3 (some .int) ∈ lw_good := ts_gd (List.mem_of_getElem? (i := 1486) (by decide +kernel)) (by decide +kernel)
theorem q_1490 : Cond.static yL_giveSugar ∈ lw_good := ts_gd (List.mem_of_getElem? (i := 1490) (by decide +kernel)) (by decide +kernel)
theorem q_1491 : Cond.codeWith yL_giveSugar cL_giveSugar 5 (some .int) [(0, 10, 13, 44), (0, 10, 17, 13)] ∈ lw_good := ts_gd (List.mem_of_getElem? (i := 1491) (by decide +kernel)) (by decide +kernel)
theorem q_1492 : Cond.methodLink "TeaspoonSalonLaw" 57 ⟨"TeaspoonSalon", "giveSugar", "(II)I"⟩ ∈ lw_good := ts_gd (List.mem_of_getElem? (i := 1492) (by decide +kernel)) (by decide +kernel)
theorem q_1493 : Cond.instanceMethod yX11_giveSugar ∈ lw_good := ts_gd (List.mem_of_getElem? (i := 1493) (by decide +kernel)) (by decide +kernel)
theorem q_1494 : Cond.selects yX11_giveSugar.cls yX11_giveSugar yX11_giveSugar ∈ lw_good := ts_gd (List.mem_of_getElem? (i := 1494) (by decide +kernel)) (by decide +kernel)
theorem q_1495 : Cond.code yX11_giveSugar cX11_giveSugar 3 (some .int) ∈ lw_good := ts_gd (List.mem_of_getElem? (i := 1495) (by decide +kernel)) (by decide +kernel)
theorem q_1499 : Cond.static yL_weight ∈ lw_good := ts_gd (List.mem_of_getElem? (i := 1499) (by decide +kernel)) (by decide +kernel)
theorem q_1500 : Cond.codeWith yL_weight cL_weight 4 (some .int) [(0, 9, 12, 44)] ∈ lw_good := ts_gd (List.mem_of_getElem? (i := 1500) (by decide +kernel)) (by decide +kernel)
theorem q_1501 : Cond.methodLink "TeaspoonSalonLaw" 60 ⟨"TeaspoonSalon", "weight", "(I)I"⟩ ∈ lw_good := ts_gd (List.mem_of_getElem? (i := 1501) (by decide +kernel)) (by decide +kernel)
theorem q_1502 : Cond.instanceMethod yX11_weight ∈ lw_good := ts_gd (List.mem_of_getElem? (i := 1502) (by decide +kernel)) (by decide +kernel)
theorem q_1503 : Cond.selects yX11_weight.cls yX11_weight yX11_weight ∈ lw_good := ts_gd (List.mem_of_getElem? (i := 1503) (by decide +kernel)) (by decide +kernel)
theorem q_1504 : Cond.code yX11_weight cX11_weight 2 (some .int) ∈ lw_good := ts_gd (List.mem_of_getElem? (i := 1504) (by decide +kernel)) (by decide +kernel)
theorem q_1512 : Cond.static yL_stance ∈ lw_good := ts_gd (List.mem_of_getElem? (i := 1512) (by decide +kernel)) (by decide +kernel)
theorem q_1513 : Cond.codeWith yL_stance cL_stance 4 (some .int) [(0, 9, 12, 44)] ∈ lw_good := ts_gd (List.mem_of_getElem? (i := 1513) (by decide +kernel)) (by decide +kernel)
theorem q_1514 : Cond.methodLink "TeaspoonSalonLaw" 63 ⟨"TeaspoonSalon", "stance", "(I)I"⟩ ∈ lw_good := ts_gd (List.mem_of_getElem? (i := 1514) (by decide +kernel)) (by decide +kernel)
theorem q_1515 : Cond.instanceMethod yX11_stance ∈ lw_good := ts_gd (List.mem_of_getElem? (i := 1515) (by decide +kernel)) (by decide +kernel)
theorem q_1516 : Cond.selects yX11_stance.cls yX11_stance yX11_stance ∈ lw_good := ts_gd (List.mem_of_getElem? (i := 1516) (by decide +kernel)) (by decide +kernel)
theorem q_1517 : Cond.code yX11_stance cX11_stance 2 (some .int) ∈ lw_good := ts_gd (List.mem_of_getElem? (i := 1517) (by decide +kernel)) (by decide +kernel)
theorem q_1519 : Cond.static yL_sugar ∈ lw_good := ts_gd (List.mem_of_getElem? (i := 1519) (by decide +kernel)) (by decide +kernel)
theorem q_1520 : Cond.codeWith yL_sugar cL_sugar 4 (some .int) [(0, 9, 12, 44)] ∈ lw_good := ts_gd (List.mem_of_getElem? (i := 1520) (by decide +kernel)) (by decide +kernel)
theorem q_1521 : Cond.methodLink "TeaspoonSalonLaw" 66 ⟨"TeaspoonSalon", "sugar", "(I)I"⟩ ∈ lw_good := ts_gd (List.mem_of_getElem? (i := 1521) (by decide +kernel)) (by decide +kernel)
theorem q_1522 : Cond.instanceMethod yX11_sugar ∈ lw_good := ts_gd (List.mem_of_getElem? (i := 1522) (by decide +kernel)) (by decide +kernel)
theorem q_1523 : Cond.selects yX11_sugar.cls yX11_sugar yX11_sugar ∈ lw_good := ts_gd (List.mem_of_getElem? (i := 1523) (by decide +kernel)) (by decide +kernel)
theorem q_1524 : Cond.code yX11_sugar cX11_sugar 2 (some .int) ∈ lw_good := ts_gd (List.mem_of_getElem? (i := 1524) (by decide +kernel)) (by decide +kernel)
theorem q_1526 : Cond.static yL_speeches ∈ lw_good := ts_gd (List.mem_of_getElem? (i := 1526) (by decide +kernel)) (by decide +kernel)
theorem q_1527 : Cond.codeWith yL_speeches cL_speeches 4 (some .int) [(0, 9, 12, 44)] ∈ lw_good := ts_gd (List.mem_of_getElem? (i := 1527) (by decide +kernel)) (by decide +kernel)
theorem q_1528 : Cond.methodLink "TeaspoonSalonLaw" 69 ⟨"TeaspoonSalon", "speeches", "(I)I"⟩ ∈ lw_good := ts_gd (List.mem_of_getElem? (i := 1528) (by decide +kernel)) (by decide +kernel)
theorem q_1529 : Cond.instanceMethod yX11_speeches ∈ lw_good := ts_gd (List.mem_of_getElem? (i := 1529) (by decide +kernel)) (by decide +kernel)
theorem q_1530 : Cond.selects yX11_speeches.cls yX11_speeches yX11_speeches ∈ lw_good := ts_gd (List.mem_of_getElem? (i := 1530) (by decide +kernel)) (by decide +kernel)
theorem q_1531 : Cond.code yX11_speeches cX11_speeches 2 (some .int) ∈ lw_good := ts_gd (List.mem_of_getElem? (i := 1531) (by decide +kernel)) (by decide +kernel)
theorem q_1533 : Cond.static yL_proposalAt ∈ lw_good := ts_gd (List.mem_of_getElem? (i := 1533) (by decide +kernel)) (by decide +kernel)
theorem q_1534 : Cond.codeWith yL_proposalAt cL_proposalAt 4 (some .int) [(0, 9, 12, 24)] ∈ lw_good := ts_gd (List.mem_of_getElem? (i := 1534) (by decide +kernel)) (by decide +kernel)
theorem q_1535 : Cond.methodLink "TeaspoonSalonLaw" 72 ⟨"TeaspoonSalon", "proposalAt", "(I)I"⟩ ∈ lw_good := ts_gd (List.mem_of_getElem? (i := 1535) (by decide +kernel)) (by decide +kernel)
theorem q_1536 : Cond.instanceMethod yX11_proposalAt ∈ lw_good := ts_gd (List.mem_of_getElem? (i := 1536) (by decide +kernel)) (by decide +kernel)
theorem q_1537 : Cond.selects yX11_proposalAt.cls yX11_proposalAt yX11_proposalAt ∈ lw_good := ts_gd (List.mem_of_getElem? (i := 1537) (by decide +kernel)) (by decide +kernel)
theorem q_1538 : Cond.code yX11_proposalAt cX11_proposalAt 2 (some .int) ∈ lw_good := ts_gd (List.mem_of_getElem? (i := 1538) (by decide +kernel)) (by decide +kernel)
theorem q_1545 : Cond.static yL_position ∈ lw_good := ts_gd (List.mem_of_getElem? (i := 1545) (by decide +kernel)) (by decide +kernel)
theorem q_1546 : Cond.codeWith yL_position cL_position 4 (some .int) [(0, 9, 12, 24)] ∈ lw_good := ts_gd (List.mem_of_getElem? (i := 1546) (by decide +kernel)) (by decide +kernel)
theorem q_1547 : Cond.methodLink "TeaspoonSalonLaw" 75 ⟨"TeaspoonSalon", "position", "(I)I"⟩ ∈ lw_good := ts_gd (List.mem_of_getElem? (i := 1547) (by decide +kernel)) (by decide +kernel)
theorem q_1548 : Cond.instanceMethod yX11_position ∈ lw_good := ts_gd (List.mem_of_getElem? (i := 1548) (by decide +kernel)) (by decide +kernel)
theorem q_1549 : Cond.selects yX11_position.cls yX11_position yX11_position ∈ lw_good := ts_gd (List.mem_of_getElem? (i := 1549) (by decide +kernel)) (by decide +kernel)
theorem q_1550 : Cond.code yX11_position cX11_position 2 (some .int) ∈ lw_good := ts_gd (List.mem_of_getElem? (i := 1550) (by decide +kernel)) (by decide +kernel)
theorem q_1559 : Cond.static yL_motionKind ∈ lw_good := ts_gd (List.mem_of_getElem? (i := 1559) (by decide +kernel)) (by decide +kernel)
theorem q_1560 : Cond.codeWith yL_motionKind cL_motionKind 4 (some .int) [(0, 9, 12, 24)] ∈ lw_good := ts_gd (List.mem_of_getElem? (i := 1560) (by decide +kernel)) (by decide +kernel)
theorem q_1561 : Cond.methodLink "TeaspoonSalonLaw" 78 ⟨"TeaspoonSalon", "motionKind", "(I)C"⟩ ∈ lw_good := ts_gd (List.mem_of_getElem? (i := 1561) (by decide +kernel)) (by decide +kernel)
theorem q_1562 : Cond.instanceMethod yX11_motionKind ∈ lw_good := ts_gd (List.mem_of_getElem? (i := 1562) (by decide +kernel)) (by decide +kernel)
theorem q_1563 : Cond.selects yX11_motionKind.cls yX11_motionKind yX11_motionKind ∈ lw_good := ts_gd (List.mem_of_getElem? (i := 1563) (by decide +kernel)) (by decide +kernel)
theorem q_1564 : Cond.code yX11_motionKind cX11_motionKind 2 (some .char) ∈ lw_good := ts_gd (List.mem_of_getElem? (i := 1564) (by decide +kernel)) (by decide +kernel)
theorem q_1567 : Cond.static yL_amendment ∈ lw_good := ts_gd (List.mem_of_getElem? (i := 1567) (by decide +kernel)) (by decide +kernel)
theorem q_1568 : Cond.codeWith yL_amendment cL_amendment 3 (some .int) [(0, 8, 11, 24)] ∈ lw_good := ts_gd (List.mem_of_getElem? (i := 1568) (by decide +kernel)) (by decide +kernel)
theorem q_1569 : Cond.methodLink "TeaspoonSalonLaw" 82 ⟨"TeaspoonSalon", "amendment", "()I"⟩ ∈ lw_good := ts_gd (List.mem_of_getElem? (i := 1569) (by decide +kernel)) (by decide +kernel)
theorem q_1570 : Cond.instanceMethod yX11_amendment ∈ lw_good := ts_gd (List.mem_of_getElem? (i := 1570) (by decide +kernel)) (by decide +kernel)
theorem q_1571 : Cond.selects yX11_amendment.cls yX11_amendment yX11_amendment ∈ lw_good := ts_gd (List.mem_of_getElem? (i := 1571) (by decide +kernel)) (by decide +kernel)
theorem q_1572 : Cond.code yX11_amendment cX11_amendment 1 (some .int) ∈ lw_good := ts_gd (List.mem_of_getElem? (i := 1572) (by decide +kernel)) (by decide +kernel)
theorem q_1579 : Cond.static yL_mainProposal ∈ lw_good := ts_gd (List.mem_of_getElem? (i := 1579) (by decide +kernel)) (by decide +kernel)
theorem q_1580 : Cond.codeWith yL_mainProposal cL_mainProposal 3 (some .int) [(0, 8, 11, 24)] ∈ lw_good := ts_gd (List.mem_of_getElem? (i := 1580) (by decide +kernel)) (by decide +kernel)
theorem q_1581 : Cond.methodLink "TeaspoonSalonLaw" 85 ⟨"TeaspoonSalon", "mainProposal", "()I"⟩ ∈ lw_good := ts_gd (List.mem_of_getElem? (i := 1581) (by decide +kernel)) (by decide +kernel)
theorem q_1582 : Cond.instanceMethod yX11_mainProposal ∈ lw_good := ts_gd (List.mem_of_getElem? (i := 1582) (by decide +kernel)) (by decide +kernel)
theorem q_1583 : Cond.selects yX11_mainProposal.cls yX11_mainProposal yX11_mainProposal ∈ lw_good := ts_gd (List.mem_of_getElem? (i := 1583) (by decide +kernel)) (by decide +kernel)
theorem q_1584 : Cond.code yX11_mainProposal cX11_mainProposal 1 (some .int) ∈ lw_good := ts_gd (List.mem_of_getElem? (i := 1584) (by decide +kernel)) (by decide +kernel)
theorem q_1587 : Cond.static yL_canMove ∈ lw_good := ts_gd (List.mem_of_getElem? (i := 1587) (by decide +kernel)) (by decide +kernel)
theorem q_1588 : Cond.codeWith yL_canMove cL_canMove 4 (some .int) [(0, 16, 19, 13)] ∈ lw_good := ts_gd (List.mem_of_getElem? (i := 1588) (by decide +kernel)) (by decide +kernel)
theorem q_1589 : Cond.methodLink "TeaspoonSalonLaw" 88 ⟨"TeaspoonSalon", "canMove", "(C)Z"⟩ ∈ lw_good := ts_gd (List.mem_of_getElem? (i := 1589) (by decide +kernel)) (by decide +kernel)
theorem q_1590 : Cond.instanceMethod yX11_canMove ∈ lw_good := ts_gd (List.mem_of_getElem? (i := 1590) (by decide +kernel)) (by decide +kernel)
theorem q_1591 : Cond.selects yX11_canMove.cls yX11_canMove yX11_canMove ∈ lw_good := ts_gd (List.mem_of_getElem? (i := 1591) (by decide +kernel)) (by decide +kernel)
theorem q_1592 : Cond.code yX11_canMove cX11_canMove 3 (some .boolean) ∈ lw_good := ts_gd (List.mem_of_getElem? (i := 1592) (by decide +kernel)) (by decide +kernel)
theorem q_1643 : Cond.static yL_yesVotes ∈ lw_good := ts_gd (List.mem_of_getElem? (i := 1643) (by decide +kernel)) (by decide +kernel)
theorem q_1644 : Cond.codeWith yL_yesVotes cL_yesVotes 3 (some .int) [(0, 8, 11, 24)] ∈ lw_good := ts_gd (List.mem_of_getElem? (i := 1644) (by decide +kernel)) (by decide +kernel)
theorem q_1645 : Cond.methodLink "TeaspoonSalonLaw" 92 ⟨"TeaspoonSalon", "yesVotes", "()I"⟩ ∈ lw_good := ts_gd (List.mem_of_getElem? (i := 1645) (by decide +kernel)) (by decide +kernel)
theorem q_1646 : Cond.instanceMethod yX11_yesVotes ∈ lw_good := ts_gd (List.mem_of_getElem? (i := 1646) (by decide +kernel)) (by decide +kernel)
theorem q_1647 : Cond.selects yX11_yesVotes.cls yX11_yesVotes yX11_yesVotes ∈ lw_good := ts_gd (List.mem_of_getElem? (i := 1647) (by decide +kernel)) (by decide +kernel)
theorem q_1648 : Cond.code yX11_yesVotes cX11_yesVotes 1 (some .int) ∈ lw_good := ts_gd (List.mem_of_getElem? (i := 1648) (by decide +kernel)) (by decide +kernel)
theorem q_1656 : Cond.static yL_wouldPass ∈ lw_good := ts_gd (List.mem_of_getElem? (i := 1656) (by decide +kernel)) (by decide +kernel)
theorem q_1657 : Cond.codeWith yL_wouldPass cL_wouldPass 3 (some .int) [(0, 15, 18, 24)] ∈ lw_good := ts_gd (List.mem_of_getElem? (i := 1657) (by decide +kernel)) (by decide +kernel)
theorem q_1658 : Cond.methodLink "TeaspoonSalonLaw" 95 ⟨"TeaspoonSalon", "wouldPass", "()Z"⟩ ∈ lw_good := ts_gd (List.mem_of_getElem? (i := 1658) (by decide +kernel)) (by decide +kernel)
theorem q_1659 : Cond.instanceMethod yX11_wouldPass ∈ lw_good := ts_gd (List.mem_of_getElem? (i := 1659) (by decide +kernel)) (by decide +kernel)
theorem q_1660 : Cond.selects yX11_wouldPass.cls yX11_wouldPass yX11_wouldPass ∈ lw_good := ts_gd (List.mem_of_getElem? (i := 1660) (by decide +kernel)) (by decide +kernel)
theorem q_1661 : Cond.code yX11_wouldPass cX11_wouldPass 1 (some .boolean) ∈ lw_good := ts_gd (List.mem_of_getElem? (i := 1661) (by decide +kernel)) (by decide +kernel)
theorem q_1664 : Cond.static yL_votesYes ∈ lw_good := ts_gd (List.mem_of_getElem? (i := 1664) (by decide +kernel)) (by decide +kernel)
theorem q_1665 : Cond.codeWith yL_votesYes cL_votesYes 4 (some .int) [(0, 16, 19, 44), (0, 16, 22, 24)] ∈ lw_good := ts_gd (List.mem_of_getElem? (i := 1665) (by decide +kernel)) (by decide +kernel)
theorem q_1666 : Cond.methodLink "TeaspoonSalonLaw" 98 ⟨"TeaspoonSalon", "votesYes", "(I)Z"⟩ ∈ lw_good := ts_gd (List.mem_of_getElem? (i := 1666) (by decide +kernel)) (by decide +kernel)
theorem q_1667 : Cond.instanceMethod yX11_votesYes ∈ lw_good := ts_gd (List.mem_of_getElem? (i := 1667) (by decide +kernel)) (by decide +kernel)
theorem q_1668 : Cond.selects yX11_votesYes.cls yX11_votesYes yX11_votesYes ∈ lw_good := ts_gd (List.mem_of_getElem? (i := 1668) (by decide +kernel)) (by decide +kernel)
theorem q_1669 : Cond.code yX11_votesYes cX11_votesYes 2 (some .boolean) ∈ lw_good := ts_gd (List.mem_of_getElem? (i := 1669) (by decide +kernel)) (by decide +kernel)
theorem q_1673 : Cond.static yL_support ∈ lw_good := ts_gd (List.mem_of_getElem? (i := 1673) (by decide +kernel)) (by decide +kernel)
theorem q_1674 : Cond.codeWith yL_support cL_support 5 (some .int) [(0, 10, 13, 24)] ∈ lw_good := ts_gd (List.mem_of_getElem? (i := 1674) (by decide +kernel)) (by decide +kernel)
theorem q_1675 : Cond.methodLink "TeaspoonSalonLaw" 102 ⟨"TeaspoonSalon", "support", "(II)I"⟩ ∈ lw_good := ts_gd (List.mem_of_getElem? (i := 1675) (by decide +kernel)) (by decide +kernel)
theorem q_1676 : Cond.instanceMethod yX11_support ∈ lw_good := ts_gd (List.mem_of_getElem? (i := 1676) (by decide +kernel)) (by decide +kernel)
theorem q_1677 : Cond.selects yX11_support.cls yX11_support yX11_support ∈ lw_good := ts_gd (List.mem_of_getElem? (i := 1677) (by decide +kernel)) (by decide +kernel)
theorem q_1678 : Cond.code yX11_support cX11_support 3 (some .int) ∈ lw_good := ts_gd (List.mem_of_getElem? (i := 1678) (by decide +kernel)) (by decide +kernel)
theorem q_1681 : Cond.static yL_bestOrder ∈ lw_good := ts_gd (List.mem_of_getElem? (i := 1681) (by decide +kernel)) (by decide +kernel)
theorem q_1682 : Cond.codeWith yL_bestOrder cL_bestOrder 4 (some .int) [(0, 9, 12, 24)] ∈ lw_good := ts_gd (List.mem_of_getElem? (i := 1682) (by decide +kernel)) (by decide +kernel)
theorem q_1683 : Cond.methodLink "TeaspoonSalonLaw" 105 ⟨"TeaspoonSalon", "bestOrder", "(I)I"⟩ ∈ lw_good := ts_gd (List.mem_of_getElem? (i := 1683) (by decide +kernel)) (by decide +kernel)
theorem q_1684 : Cond.instanceMethod yX11_bestOrder ∈ lw_good := ts_gd (List.mem_of_getElem? (i := 1684) (by decide +kernel)) (by decide +kernel)
theorem q_1685 : Cond.selects yX11_bestOrder.cls yX11_bestOrder yX11_bestOrder ∈ lw_good := ts_gd (List.mem_of_getElem? (i := 1685) (by decide +kernel)) (by decide +kernel)
theorem q_1686 : Cond.code yX11_bestOrder cX11_bestOrder 2 (some .int) ∈ lw_good := ts_gd (List.mem_of_getElem? (i := 1686) (by decide +kernel)) (by decide +kernel)
theorem q_1697 : Cond.static yL_isInTop ∈ lw_good := ts_gd (List.mem_of_getElem? (i := 1697) (by decide +kernel)) (by decide +kernel)
theorem q_1698 : Cond.codeWith yL_isInTop cL_isInTop 4 (some .int) [(0, 16, 19, 24)] ∈ lw_good := ts_gd (List.mem_of_getElem? (i := 1698) (by decide +kernel)) (by decide +kernel)
theorem q_1699 : Cond.methodLink "TeaspoonSalonLaw" 108 ⟨"TeaspoonSalon", "isInTop", "(I)Z"⟩ ∈ lw_good := ts_gd (List.mem_of_getElem? (i := 1699) (by decide +kernel)) (by decide +kernel)
theorem q_1700 : Cond.instanceMethod yX11_isInTop ∈ lw_good := ts_gd (List.mem_of_getElem? (i := 1700) (by decide +kernel)) (by decide +kernel)
theorem q_1701 : Cond.selects yX11_isInTop.cls yX11_isInTop yX11_isInTop ∈ lw_good := ts_gd (List.mem_of_getElem? (i := 1701) (by decide +kernel)) (by decide +kernel)
theorem q_1702 : Cond.code yX11_isInTop cX11_isInTop 2 (some .boolean) ∈ lw_good := ts_gd (List.mem_of_getElem? (i := 1702) (by decide +kernel)) (by decide +kernel)
theorem q_1705 : Cond.static yL_isInTopBySets ∈ lw_good := ts_gd (List.mem_of_getElem? (i := 1705) (by decide +kernel)) (by decide +kernel)
theorem q_1706 : Cond.codeWith yL_isInTopBySets cL_isInTopBySets 4 (some .int) [(0, 16, 19, 24)] ∈ lw_good := ts_gd (List.mem_of_getElem? (i := 1706) (by decide +kernel)) (by decide +kernel)
theorem q_1707 : Cond.methodLink "TeaspoonSalonLaw" 111 ⟨"TeaspoonSalon", "isInTopBySets", "(I)Z"⟩ ∈ lw_good := ts_gd (List.mem_of_getElem? (i := 1707) (by decide +kernel)) (by decide +kernel)
theorem q_1708 : Cond.instanceMethod yX11_isInTopBySets ∈ lw_good := ts_gd (List.mem_of_getElem? (i := 1708) (by decide +kernel)) (by decide +kernel)
theorem q_1709 : Cond.selects yX11_isInTopBySets.cls yX11_isInTopBySets yX11_isInTopBySets ∈ lw_good := ts_gd (List.mem_of_getElem? (i := 1709) (by decide +kernel)) (by decide +kernel)
theorem q_1710 : Cond.code yX11_isInTopBySets cX11_isInTopBySets 2 (some .boolean) ∈ lw_good := ts_gd (List.mem_of_getElem? (i := 1710) (by decide +kernel)) (by decide +kernel)
theorem q_1714 : Cond.static yL_isWet ∈ lw_good := ts_gd (List.mem_of_getElem? (i := 1714) (by decide +kernel)) (by decide +kernel)
theorem q_1715 : Cond.codeWith yL_isWet cL_isWet 5 (some .int) [(0, 17, 20, 44)] ∈ lw_good := ts_gd (List.mem_of_getElem? (i := 1715) (by decide +kernel)) (by decide +kernel)
theorem q_1716 : Cond.methodLink "TeaspoonSalonLaw" 114 ⟨"TeaspoonSalon", "isWet", "(II)Z"⟩ ∈ lw_good := ts_gd (List.mem_of_getElem? (i := 1716) (by decide +kernel)) (by decide +kernel)
theorem q_1717 : Cond.instanceMethod yX11_isWet ∈ lw_good := ts_gd (List.mem_of_getElem? (i := 1717) (by decide +kernel)) (by decide +kernel)
theorem q_1718 : Cond.selects yX11_isWet.cls yX11_isWet yX11_isWet ∈ lw_good := ts_gd (List.mem_of_getElem? (i := 1718) (by decide +kernel)) (by decide +kernel)
theorem q_1719 : Cond.code yX11_isWet cX11_isWet 3 (some .boolean) ∈ lw_good := ts_gd (List.mem_of_getElem? (i := 1719) (by decide +kernel)) (by decide +kernel)
theorem q_1728 : Cond.static yL_puddle ∈ lw_good := ts_gd (List.mem_of_getElem? (i := 1728) (by decide +kernel)) (by decide +kernel)
theorem q_1729 : Cond.codeWith yL_puddle cL_puddle 5 (some .int) [(0, 10, 13, 44)] ∈ lw_good := ts_gd (List.mem_of_getElem? (i := 1729) (by decide +kernel)) (by decide +kernel)
theorem q_1730 : Cond.methodLink "TeaspoonSalonLaw" 118 ⟨"TeaspoonSalon", "puddle", "(II)I"⟩ ∈ lw_good := ts_gd (List.mem_of_getElem? (i := 1730) (by decide +kernel)) (by decide +kernel)
theorem q_1731 : Cond.instanceMethod yX11_puddle ∈ lw_good := ts_gd (List.mem_of_getElem? (i := 1731) (by decide +kernel)) (by decide +kernel)
theorem q_1732 : Cond.selects yX11_puddle.cls yX11_puddle yX11_puddle ∈ lw_good := ts_gd (List.mem_of_getElem? (i := 1732) (by decide +kernel)) (by decide +kernel)
theorem q_1733 : Cond.code yX11_puddle cX11_puddle 3 (some .int) ∈ lw_good := ts_gd (List.mem_of_getElem? (i := 1733) (by decide +kernel)) (by decide +kernel)
theorem q_1737 : Cond.static yL_puddleByGroups ∈ lw_good := ts_gd (List.mem_of_getElem? (i := 1737) (by decide +kernel)) (by decide +kernel)
theorem q_1738 : Cond.codeWith yL_puddleByGroups cL_puddleByGroups 5 (some .int) [(0, 10, 13, 44)] ∈ lw_good := ts_gd (List.mem_of_getElem? (i := 1738) (by decide +kernel)) (by decide +kernel)
theorem q_1739 : Cond.methodLink "TeaspoonSalonLaw" 121 ⟨"TeaspoonSalon", "puddleByGroups", "(II)I"⟩ ∈ lw_good := ts_gd (List.mem_of_getElem? (i := 1739) (by decide +kernel)) (by decide +kernel)
theorem q_1740 : Cond.instanceMethod yX11_puddleByGroups ∈ lw_good := ts_gd (List.mem_of_getElem? (i := 1740) (by decide +kernel)) (by decide +kernel)
theorem q_1741 : Cond.selects yX11_puddleByGroups.cls yX11_puddleByGroups yX11_puddleByGroups ∈ lw_good := ts_gd (List.mem_of_getElem? (i := 1741) (by decide +kernel)) (by decide +kernel)
theorem q_1742 : Cond.code yX11_puddleByGroups cX11_puddleByGroups 3 (some .int) ∈ lw_good := ts_gd (List.mem_of_getElem? (i := 1742) (by decide +kernel)) (by decide +kernel)
theorem q_1746 : Cond.static yL_spoonBySugar ∈ lw_good := ts_gd (List.mem_of_getElem? (i := 1746) (by decide +kernel)) (by decide +kernel)
theorem q_1747 : Cond.codeWith yL_spoonBySugar cL_spoonBySugar 4 (some .int) [(0, 9, 12, 24)] ∈ lw_good := ts_gd (List.mem_of_getElem? (i := 1747) (by decide +kernel)) (by decide +kernel)
theorem q_1748 : Cond.methodLink "TeaspoonSalonLaw" 124 ⟨"TeaspoonSalon", "spoonBySugar", "(I)I"⟩ ∈ lw_good := ts_gd (List.mem_of_getElem? (i := 1748) (by decide +kernel)) (by decide +kernel)
theorem q_1749 : Cond.instanceMethod yX11_spoonBySugar ∈ lw_good := ts_gd (List.mem_of_getElem? (i := 1749) (by decide +kernel)) (by decide +kernel)
theorem q_1750 : Cond.selects yX11_spoonBySugar.cls yX11_spoonBySugar yX11_spoonBySugar ∈ lw_good := ts_gd (List.mem_of_getElem? (i := 1750) (by decide +kernel)) (by decide +kernel)
theorem q_1751 : Cond.code yX11_spoonBySugar cX11_spoonBySugar 2 (some .int) ∈ lw_good := ts_gd (List.mem_of_getElem? (i := 1751) (by decide +kernel)) (by decide +kernel)
theorem q_1762 : Cond.static yL_minute ∈ lw_good := ts_gd (List.mem_of_getElem? (i := 1762) (by decide +kernel)) (by decide +kernel)
theorem q_1763 : Cond.codeWith yL_minute cL_minute 4 (some .int) [(0, 9, 12, 24)] ∈ lw_good := ts_gd (List.mem_of_getElem? (i := 1763) (by decide +kernel)) (by decide +kernel)
theorem q_1764 : Cond.methodLink "TeaspoonSalonLaw" 127 ⟨"TeaspoonSalon", "minute", "(I)I"⟩ ∈ lw_good := ts_gd (List.mem_of_getElem? (i := 1764) (by decide +kernel)) (by decide +kernel)
theorem q_1765 : Cond.instanceMethod yX11_minute ∈ lw_good := ts_gd (List.mem_of_getElem? (i := 1765) (by decide +kernel)) (by decide +kernel)
theorem q_1766 : Cond.selects yX11_minute.cls yX11_minute yX11_minute ∈ lw_good := ts_gd (List.mem_of_getElem? (i := 1766) (by decide +kernel)) (by decide +kernel)
theorem q_1767 : Cond.code yX11_minute cX11_minute 2 (some .int) ∈ lw_good := ts_gd (List.mem_of_getElem? (i := 1767) (by decide +kernel)) (by decide +kernel)
theorem q_1778 : Cond.static yL_meanStance ∈ lw_good := ts_gd (List.mem_of_getElem? (i := 1778) (by decide +kernel)) (by decide +kernel)
theorem q_1779 : Cond.codeWith yL_meanStance cL_meanStance 3 (some .int) [(0, 7, 10, 134)] ∈ lw_good := ts_gd (List.mem_of_getElem? (i := 1779) (by decide +kernel)) (by decide +kernel)
theorem q_1780 : Cond.classLink "TeaspoonSalonLaw" 134 "java/lang/ArithmeticException" ∈ lw_good := ts_gd (List.mem_of_getElem? (i := 1780) (by decide +kernel)) (by decide +kernel)
theorem q_1794 : Cond.methodLink "TeaspoonSalonLaw" 130 ⟨"TeaspoonSalon", "meanStance", "()D"⟩ ∈ lw_good := ts_gd (List.mem_of_getElem? (i := 1794) (by decide +kernel)) (by decide +kernel)
theorem q_1795 : Cond.instanceMethod yX11_meanStance ∈ lw_good := ts_gd (List.mem_of_getElem? (i := 1795) (by decide +kernel)) (by decide +kernel)
theorem q_1796 : Cond.selects yX11_meanStance.cls yX11_meanStance yX11_meanStance ∈ lw_good := ts_gd (List.mem_of_getElem? (i := 1796) (by decide +kernel)) (by decide +kernel)
theorem q_1797 : Cond.code yX11_meanStance cX11_meanStance 2 (some .double) ∈ lw_good := ts_gd (List.mem_of_getElem? (i := 1797) (by decide +kernel)) (by decide +kernel)
theorem q_1806 : Cond.static yL_adoptedShare ∈ lw_good := ts_gd (List.mem_of_getElem? (i := 1806) (by decide +kernel)) (by decide +kernel)
theorem q_1807 : Cond.codeWith yL_adoptedShare cL_adoptedShare 3 (some .int) [(0, 8, 11, 134)] ∈ lw_good := ts_gd (List.mem_of_getElem? (i := 1807) (by decide +kernel)) (by decide +kernel)
theorem q_1808 : Cond.methodLink "TeaspoonSalonLaw" 136 ⟨"TeaspoonSalon", "adoptedShare", "()F"⟩ ∈ lw_good := ts_gd (List.mem_of_getElem? (i := 1808) (by decide +kernel)) (by decide +kernel)
theorem q_1809 : Cond.instanceMethod yX11_adoptedShare ∈ lw_good := ts_gd (List.mem_of_getElem? (i := 1809) (by decide +kernel)) (by decide +kernel)
theorem q_1810 : Cond.selects yX11_adoptedShare.cls yX11_adoptedShare yX11_adoptedShare ∈ lw_good := ts_gd (List.mem_of_getElem? (i := 1810) (by decide +kernel)) (by decide +kernel)
theorem q_1811 : Cond.code yX11_adoptedShare cX11_adoptedShare 2 (some .float) ∈ lw_good := ts_gd (List.mem_of_getElem? (i := 1811) (by decide +kernel)) (by decide +kernel)
theorem q_1814 : Cond.static yL_outputAt ∈ lw_good := ts_gd (List.mem_of_getElem? (i := 1814) (by decide +kernel)) (by decide +kernel)
theorem q_1815 : Cond.codeWith yL_outputAt cL_outputAt 4 (some .int) [(0, 9, 12, 44)] ∈ lw_good := ts_gd (List.mem_of_getElem? (i := 1815) (by decide +kernel)) (by decide +kernel)
theorem q_1816 : Cond.methodLink "TeaspoonSalonLaw" 140 ⟨"TeaspoonSalon", "outputAt", "(I)C"⟩ ∈ lw_good := ts_gd (List.mem_of_getElem? (i := 1816) (by decide +kernel)) (by decide +kernel)
theorem q_1817 : Cond.instanceMethod yX11_outputAt ∈ lw_good := ts_gd (List.mem_of_getElem? (i := 1817) (by decide +kernel)) (by decide +kernel)
theorem q_1818 : Cond.selects yX11_outputAt.cls yX11_outputAt yX11_outputAt ∈ lw_good := ts_gd (List.mem_of_getElem? (i := 1818) (by decide +kernel)) (by decide +kernel)
theorem q_1819 : Cond.code yX11_outputAt cX11_outputAt 2 (some .char) ∈ lw_good := ts_gd (List.mem_of_getElem? (i := 1819) (by decide +kernel)) (by decide +kernel)
theorem q_1832 : Cond.static yL_type ∈ lw_good := ts_gd (List.mem_of_getElem? (i := 1832) (by decide +kernel)) (by decide +kernel)
theorem q_1833 : Cond.codeWith yL_type cL_type 4 (some .int) [(0, 9, 12, 13), (0, 9, 15, 15)] ∈ lw_good := ts_gd (List.mem_of_getElem? (i := 1833) (by decide +kernel)) (by decide +kernel)
theorem q_1834 : Cond.methodLink "TeaspoonSalonLaw" 143 ⟨"TeaspoonSalon", "type", "(C)I"⟩ ∈ lw_good := ts_gd (List.mem_of_getElem? (i := 1834) (by decide +kernel)) (by decide +kernel)
theorem q_1835 : Cond.instanceMethod yX11_type ∈ lw_good := ts_gd (List.mem_of_getElem? (i := 1835) (by decide +kernel)) (by decide +kernel)
theorem q_1836 : Cond.selects yX11_type.cls yX11_type yX11_type ∈ lw_good := ts_gd (List.mem_of_getElem? (i := 1836) (by decide +kernel)) (by decide +kernel)
theorem q_1837 : Cond.code yX11_type cX11_type 2 (some .int) ∈ lw_good := ts_gd (List.mem_of_getElem? (i := 1837) (by decide +kernel)) (by decide +kernel)
theorem q_1849 : Cond.static yL_runScript ∈ lw_good := ts_gd (List.mem_of_getElem? (i := 1849) (by decide +kernel)) (by decide +kernel)
theorem q_1850 : Cond.codeWith yL_runScript cL_runScript 3 (some .int) [(0, 8, 11, 13), (0, 8, 14, 15)] ∈ lw_good := ts_gd (List.mem_of_getElem? (i := 1850) (by decide +kernel)) (by decide +kernel)
theorem q_1851 : Cond.methodLink "TeaspoonSalonLaw" 147 ⟨"TeaspoonSalon", "runScript", "()I"⟩ ∈ lw_good := ts_gd (List.mem_of_getElem? (i := 1851) (by decide +kernel)) (by decide +kernel)
theorem q_1852 : Cond.instanceMethod yX11_runScript ∈ lw_good := ts_gd (List.mem_of_getElem? (i := 1852) (by decide +kernel)) (by decide +kernel)
theorem q_1853 : Cond.selects yX11_runScript.cls yX11_runScript yX11_runScript ∈ lw_good := ts_gd (List.mem_of_getElem? (i := 1853) (by decide +kernel)) (by decide +kernel)
theorem q_1854 : Cond.code yX11_runScript cX11_runScript 3 (some .int) ∈ lw_good := ts_gd (List.mem_of_getElem? (i := 1854) (by decide +kernel)) (by decide +kernel)
theorem q_1913 : Cond.static yL_errorPosition ∈ lw_good := ts_gd (List.mem_of_getElem? (i := 1913) (by decide +kernel)) (by decide +kernel)
theorem q_1914 : Cond.codeWith yL_errorPosition cL_errorPosition 3 (some .int) [(0, 8, 11, 24)] ∈ lw_good := ts_gd (List.mem_of_getElem? (i := 1914) (by decide +kernel)) (by decide +kernel)
theorem q_1915 : Cond.methodLink "TeaspoonSalonLaw" 150 ⟨"TeaspoonSalon", "errorPosition", "()I"⟩ ∈ lw_good := ts_gd (List.mem_of_getElem? (i := 1915) (by decide +kernel)) (by decide +kernel)
theorem q_1916 : Cond.instanceMethod yX11_errorPosition ∈ lw_good := ts_gd (List.mem_of_getElem? (i := 1916) (by decide +kernel)) (by decide +kernel)
theorem q_1917 : Cond.selects yX11_errorPosition.cls yX11_errorPosition yX11_errorPosition ∈ lw_good := ts_gd (List.mem_of_getElem? (i := 1917) (by decide +kernel)) (by decide +kernel)
theorem q_1918 : Cond.code yX11_errorPosition cX11_errorPosition 1 (some .int) ∈ lw_good := ts_gd (List.mem_of_getElem? (i := 1918) (by decide +kernel)) (by decide +kernel)
theorem q_1921 : Cond.static yL_failedCommand ∈ lw_good := ts_gd (List.mem_of_getElem? (i := 1921) (by decide +kernel)) (by decide +kernel)
theorem q_1922 : Cond.codeWith yL_failedCommand cL_failedCommand 3 (some .int) [(0, 8, 11, 24)] ∈ lw_good := ts_gd (List.mem_of_getElem? (i := 1922) (by decide +kernel)) (by decide +kernel)
theorem q_1923 : Cond.methodLink "TeaspoonSalonLaw" 153 ⟨"TeaspoonSalon", "failedCommand", "()I"⟩ ∈ lw_good := ts_gd (List.mem_of_getElem? (i := 1923) (by decide +kernel)) (by decide +kernel)
theorem q_1924 : Cond.instanceMethod yX11_failedCommand ∈ lw_good := ts_gd (List.mem_of_getElem? (i := 1924) (by decide +kernel)) (by decide +kernel)
theorem q_1925 : Cond.selects yX11_failedCommand.cls yX11_failedCommand yX11_failedCommand ∈ lw_good := ts_gd (List.mem_of_getElem? (i := 1925) (by decide +kernel)) (by decide +kernel)
theorem q_1926 : Cond.code yX11_failedCommand cX11_failedCommand 1 (some .int) ∈ lw_good := ts_gd (List.mem_of_getElem? (i := 1926) (by decide +kernel)) (by decide +kernel)
theorem q_1929 : Cond.static yL_undo ∈ lw_good := ts_gd (List.mem_of_getElem? (i := 1929) (by decide +kernel)) (by decide +kernel)
theorem q_1930 : Cond.codeWith yL_undo cL_undo 3 (some .int) [(0, 8, 11, 15)] ∈ lw_good := ts_gd (List.mem_of_getElem? (i := 1930) (by decide +kernel)) (by decide +kernel)
theorem q_1931 : Cond.methodLink "TeaspoonSalonLaw" 156 ⟨"TeaspoonSalon", "undo", "()I"⟩ ∈ lw_good := ts_gd (List.mem_of_getElem? (i := 1931) (by decide +kernel)) (by decide +kernel)
theorem q_1932 : Cond.instanceMethod yX11_undo ∈ lw_good := ts_gd (List.mem_of_getElem? (i := 1932) (by decide +kernel)) (by decide +kernel)
theorem q_1933 : Cond.selects yX11_undo.cls yX11_undo yX11_undo ∈ lw_good := ts_gd (List.mem_of_getElem? (i := 1933) (by decide +kernel)) (by decide +kernel)
theorem q_1934 : Cond.code yX11_undo cX11_undo 1 (some .int) ∈ lw_good := ts_gd (List.mem_of_getElem? (i := 1934) (by decide +kernel)) (by decide +kernel)
theorem q_1941 : Cond.static yL_restore ∈ lw_good := ts_gd (List.mem_of_getElem? (i := 1941) (by decide +kernel)) (by decide +kernel)
theorem q_1942 : Cond.codeWith yL_restore cL_restore 3 (some .int) [(0, 8, 11, 15)] ∈ lw_good := ts_gd (List.mem_of_getElem? (i := 1942) (by decide +kernel)) (by decide +kernel)
theorem q_1943 : Cond.methodLink "TeaspoonSalonLaw" 159 ⟨"TeaspoonSalon", "restore", "()I"⟩ ∈ lw_good := ts_gd (List.mem_of_getElem? (i := 1943) (by decide +kernel)) (by decide +kernel)
theorem q_1944 : Cond.instanceMethod yX11_restore ∈ lw_good := ts_gd (List.mem_of_getElem? (i := 1944) (by decide +kernel)) (by decide +kernel)
theorem q_1945 : Cond.selects yX11_restore.cls yX11_restore yX11_restore ∈ lw_good := ts_gd (List.mem_of_getElem? (i := 1945) (by decide +kernel)) (by decide +kernel)
theorem q_1946 : Cond.code yX11_restore cX11_restore 1 (some .int) ∈ lw_good := ts_gd (List.mem_of_getElem? (i := 1946) (by decide +kernel)) (by decide +kernel)
theorem qc_ArithmeticException : Cond.castable "java/lang/ArithmeticException" "java/lang/ArithmeticException" ∈ ts_nw := List.mem_of_getElem? (i := 31) (by decide +kernel)
theorem qc_IllegalArgumentException : Cond.castable "java/lang/IllegalArgumentException" "java/lang/IllegalArgumentException" ∈ ts_nw := List.mem_of_getElem? (i := 9) (by decide +kernel)
theorem qc_IllegalStateException : Cond.castable "java/lang/IllegalStateException" "java/lang/IllegalStateException" ∈ ts_nw := List.mem_of_getElem? (i := 27) (by decide +kernel)
theorem qc_IndexOutOfBoundsException : Cond.castable "java/lang/IndexOutOfBoundsException" "java/lang/IndexOutOfBoundsException" ∈ ts_nw := List.mem_of_getElem? (i := 28) (by decide +kernel)
theorem qc_UnsupportedOperationException : Cond.castable "java/lang/UnsupportedOperationException" "java/lang/UnsupportedOperationException" ∈ ts_nw := List.mem_of_getElem? (i := 30) (by decide +kernel)
theorem qc_NoSuchElementException : Cond.castable "java/util/NoSuchElementException" "java/util/NoSuchElementException" ∈ ts_nw := List.mem_of_getElem? (i := 29) (by decide +kernel)
theorem kX11_addSpoon : ts_Yv yX11_addSpoon cX11_addSpoon 3 (some .int) 2 := ⟨q_1092, q_1093, q_119, q_1094, by decide +kernel, by decide +kernel⟩
theorem kX11_propose : ts_Yv yX11_propose cX11_propose 2 (some .int) 1 := ⟨q_1398, q_1399, q_119, q_1400, by decide +kernel, by decide +kernel⟩
theorem kX11_moveMain : ts_Yv yX11_moveMain cX11_moveMain 2 (some .int) 1 := ⟨q_1409, q_1410, q_119, q_1411, by decide +kernel, by decide +kernel⟩
theorem kX11_moveAmendment : ts_Yv yX11_moveAmendment cX11_moveAmendment 2 (some .int) 1 := ⟨q_1418, q_1419, q_119, q_1420, by decide +kernel, by decide +kernel⟩
theorem kX11_movePostponement : ts_Yv yX11_movePostponement cX11_movePostponement 1 (some .int) 0 := ⟨q_1427, q_1428, q_119, q_1429, by decide +kernel, by decide +kernel⟩
theorem kX11_moveClosure : ts_Yv yX11_moveClosure cX11_moveClosure 1 (some .int) 0 := ⟨q_1436, q_1437, q_119, q_1438, by decide +kernel, by decide +kernel⟩
theorem kX11_moveAdjournment : ts_Yv yX11_moveAdjournment cX11_moveAdjournment 1 (some .int) 0 := ⟨q_1445, q_1446, q_119, q_1447, by decide +kernel, by decide +kernel⟩
theorem kX11_speak : ts_Yv yX11_speak cX11_speak 2 (some .int) 1 := ⟨q_1457, q_1458, q_119, q_1459, by decide +kernel, by decide +kernel⟩
theorem kX11_vote : ts_Yv yX11_vote cX11_vote 1 (some .boolean) 0 := ⟨q_1466, q_1467, q_119, q_1468, by decide +kernel, by decide +kernel⟩
theorem kX11_spill : ts_Yv yX11_spill cX11_spill 4 (some .int) 3 := ⟨q_1475, q_1476, q_119, q_1477, by decide +kernel, by decide +kernel⟩
theorem kX11_mop : ts_Yv yX11_mop cX11_mop 3 (some .int) 2 := ⟨q_1484, q_1485, q_119, q_1486, by decide +kernel, by decide +kernel⟩
theorem kX11_giveSugar : ts_Yv yX11_giveSugar cX11_giveSugar 3 (some .int) 2 := ⟨q_1493, q_1494, q_119, q_1495, by decide +kernel, by decide +kernel⟩
theorem kX11_weight : ts_Yv yX11_weight cX11_weight 2 (some .int) 1 := ⟨q_1502, q_1503, q_119, q_1504, by decide +kernel, by decide +kernel⟩
theorem kX11_stance : ts_Yv yX11_stance cX11_stance 2 (some .int) 1 := ⟨q_1515, q_1516, q_119, q_1517, by decide +kernel, by decide +kernel⟩
theorem kX11_sugar : ts_Yv yX11_sugar cX11_sugar 2 (some .int) 1 := ⟨q_1522, q_1523, q_119, q_1524, by decide +kernel, by decide +kernel⟩
theorem kX11_speeches : ts_Yv yX11_speeches cX11_speeches 2 (some .int) 1 := ⟨q_1529, q_1530, q_119, q_1531, by decide +kernel, by decide +kernel⟩
theorem kX11_proposalAt : ts_Yv yX11_proposalAt cX11_proposalAt 2 (some .int) 1 := ⟨q_1536, q_1537, q_119, q_1538, by decide +kernel, by decide +kernel⟩
theorem kX11_position : ts_Yv yX11_position cX11_position 2 (some .int) 1 := ⟨q_1548, q_1549, q_119, q_1550, by decide +kernel, by decide +kernel⟩
theorem kX11_motionKind : ts_Yv yX11_motionKind cX11_motionKind 2 (some .char) 1 := ⟨q_1562, q_1563, q_119, q_1564, by decide +kernel, by decide +kernel⟩
theorem kX11_amendment : ts_Yv yX11_amendment cX11_amendment 1 (some .int) 0 := ⟨q_1570, q_1571, q_119, q_1572, by decide +kernel, by decide +kernel⟩
theorem kX11_mainProposal : ts_Yv yX11_mainProposal cX11_mainProposal 1 (some .int) 0 := ⟨q_1582, q_1583, q_119, q_1584, by decide +kernel, by decide +kernel⟩
theorem kX11_canMove : ts_Yv yX11_canMove cX11_canMove 3 (some .boolean) 1 := ⟨q_1590, q_1591, q_119, q_1592, by decide +kernel, by decide +kernel⟩
theorem kX11_yesVotes : ts_Yv yX11_yesVotes cX11_yesVotes 1 (some .int) 0 := ⟨q_1646, q_1647, q_119, q_1648, by decide +kernel, by decide +kernel⟩
theorem kX11_wouldPass : ts_Yv yX11_wouldPass cX11_wouldPass 1 (some .boolean) 0 := ⟨q_1659, q_1660, q_119, q_1661, by decide +kernel, by decide +kernel⟩
theorem kX11_votesYes : ts_Yv yX11_votesYes cX11_votesYes 2 (some .boolean) 1 := ⟨q_1667, q_1668, q_119, q_1669, by decide +kernel, by decide +kernel⟩
theorem kX11_support : ts_Yv yX11_support cX11_support 3 (some .int) 2 := ⟨q_1676, q_1677, q_119, q_1678, by decide +kernel, by decide +kernel⟩
theorem kX11_bestOrder : ts_Yv yX11_bestOrder cX11_bestOrder 2 (some .int) 1 := ⟨q_1684, q_1685, q_119, q_1686, by decide +kernel, by decide +kernel⟩
theorem kX11_isInTop : ts_Yv yX11_isInTop cX11_isInTop 2 (some .boolean) 1 := ⟨q_1700, q_1701, q_119, q_1702, by decide +kernel, by decide +kernel⟩
theorem kX11_isInTopBySets : ts_Yv yX11_isInTopBySets cX11_isInTopBySets 2 (some .boolean) 1 := ⟨q_1708, q_1709, q_119, q_1710, by decide +kernel, by decide +kernel⟩
theorem kX11_isWet : ts_Yv yX11_isWet cX11_isWet 3 (some .boolean) 2 := ⟨q_1717, q_1718, q_119, q_1719, by decide +kernel, by decide +kernel⟩
theorem kX11_puddle : ts_Yv yX11_puddle cX11_puddle 3 (some .int) 2 := ⟨q_1731, q_1732, q_119, q_1733, by decide +kernel, by decide +kernel⟩
theorem kX11_puddleByGroups : ts_Yv yX11_puddleByGroups cX11_puddleByGroups 3 (some .int) 2 := ⟨q_1740, q_1741, q_119, q_1742, by decide +kernel, by decide +kernel⟩
theorem kX11_spoonBySugar : ts_Yv yX11_spoonBySugar cX11_spoonBySugar 2 (some .int) 1 := ⟨q_1749, q_1750, q_119, q_1751, by decide +kernel, by decide +kernel⟩
theorem kX11_minute : ts_Yv yX11_minute cX11_minute 2 (some .int) 1 := ⟨q_1765, q_1766, q_119, q_1767, by decide +kernel, by decide +kernel⟩
theorem kX11_meanStance : ts_Yv yX11_meanStance cX11_meanStance 2 (some .double) 0 := ⟨q_1795, q_1796, q_119, q_1797, by decide +kernel, by decide +kernel⟩
theorem kX11_adoptedShare : ts_Yv yX11_adoptedShare cX11_adoptedShare 2 (some .float) 0 := ⟨q_1809, q_1810, q_119, q_1811, by decide +kernel, by decide +kernel⟩
theorem kX11_outputAt : ts_Yv yX11_outputAt cX11_outputAt 2 (some .char) 1 := ⟨q_1817, q_1818, q_119, q_1819, by decide +kernel, by decide +kernel⟩
theorem kX11_type : ts_Yv yX11_type cX11_type 2 (some .int) 1 := ⟨q_1835, q_1836, q_119, q_1837, by decide +kernel, by decide +kernel⟩
theorem kX11_runScript : ts_Yv yX11_runScript cX11_runScript 3 (some .int) 0 := ⟨q_1852, q_1853, q_119, q_1854, by decide +kernel, by decide +kernel⟩
theorem kX11_errorPosition : ts_Yv yX11_errorPosition cX11_errorPosition 1 (some .int) 0 := ⟨q_1916, q_1917, q_119, q_1918, by decide +kernel, by decide +kernel⟩
theorem kX11_failedCommand : ts_Yv yX11_failedCommand cX11_failedCommand 1 (some .int) 0 := ⟨q_1924, q_1925, q_119, q_1926, by decide +kernel, by decide +kernel⟩
theorem kX11_undo : ts_Yv yX11_undo cX11_undo 1 (some .int) 0 := ⟨q_1932, q_1933, q_119, q_1934, by decide +kernel, by decide +kernel⟩
theorem kX11_restore : ts_Yv yX11_restore cX11_restore 1 (some .int) 0 := ⟨q_1944, q_1945, q_119, q_1946, by decide +kernel, by decide +kernel⟩
theorem kL_addSpoon : ts_Yw yL_addSpoon cL_addSpoon 5 (some .int) [(0, 10, 13, 13), (0, 10, 17, 15)] 4 := ⟨q_1087, q_118, q_1088, by decide +kernel, by decide +kernel⟩
theorem kL_propose : ts_Yw yL_propose cL_propose 4 (some .int) [(0, 9, 12, 13), (0, 9, 15, 15)] 3 := ⟨q_1395, q_118, q_1396, by decide +kernel, by decide +kernel⟩
theorem kL_moveMain : ts_Yw yL_moveMain cL_moveMain 4 (some .int) [(0, 9, 12, 24), (0, 9, 15, 26)] 3 := ⟨q_1404, q_118, q_1405, by decide +kernel, by decide +kernel⟩
theorem kL_moveAmendment : ts_Yw yL_moveAmendment cL_moveAmendment 4 (some .int) [(0, 9, 12, 13), (0, 9, 15, 26)] 3 := ⟨q_1415, q_118, q_1416, by decide +kernel, by decide +kernel⟩
theorem kL_movePostponement : ts_Yw yL_movePostponement cL_movePostponement 3 (some .int) [(0, 8, 11, 26)] 2 := ⟨q_1424, q_118, q_1425, by decide +kernel, by decide +kernel⟩
theorem kL_moveClosure : ts_Yw yL_moveClosure cL_moveClosure 3 (some .int) [(0, 8, 11, 26)] 2 := ⟨q_1433, q_118, q_1434, by decide +kernel, by decide +kernel⟩
theorem kL_moveAdjournment : ts_Yw yL_moveAdjournment cL_moveAdjournment 3 (some .int) [(0, 8, 11, 26)] 2 := ⟨q_1442, q_118, q_1443, by decide +kernel, by decide +kernel⟩
theorem kL_speak : ts_Yw yL_speak cL_speak 4 (some .int) [(0, 9, 12, 44), (0, 9, 15, 15), (0, 9, 18, 26)] 3 := ⟨q_1451, q_118, q_1452, by decide +kernel, by decide +kernel⟩
theorem kL_vote : ts_Yw yL_vote cL_vote 3 (some .int) [(0, 15, 18, 24)] 2 := ⟨q_1463, q_118, q_1464, by decide +kernel, by decide +kernel⟩
theorem kL_spill : ts_Yw yL_spill cL_spill 6 (some .int) [(0, 12, 15, 44), (0, 12, 19, 13)] 5 := ⟨q_1472, q_118, q_1473, by decide +kernel, by decide +kernel⟩
theorem kL_mop : ts_Yw yL_mop cL_mop 5 (some .int) [(0, 10, 13, 44), (0, 10, 17, 15)] 4 := ⟨q_1481, q_118, q_1482, by decide +kernel, by decide +kernel⟩
theorem kL_giveSugar : ts_Yw yL_giveSugar cL_giveSugar 5 (some .int) [(0, 10, 13, 44), (0, 10, 17, 13)] 4 := ⟨q_1490, q_118, q_1491, by decide +kernel, by decide +kernel⟩
theorem kL_weight : ts_Yw yL_weight cL_weight 4 (some .int) [(0, 9, 12, 44)] 3 := ⟨q_1499, q_118, q_1500, by decide +kernel, by decide +kernel⟩
theorem kL_stance : ts_Yw yL_stance cL_stance 4 (some .int) [(0, 9, 12, 44)] 3 := ⟨q_1512, q_118, q_1513, by decide +kernel, by decide +kernel⟩
theorem kL_sugar : ts_Yw yL_sugar cL_sugar 4 (some .int) [(0, 9, 12, 44)] 3 := ⟨q_1519, q_118, q_1520, by decide +kernel, by decide +kernel⟩
theorem kL_speeches : ts_Yw yL_speeches cL_speeches 4 (some .int) [(0, 9, 12, 44)] 3 := ⟨q_1526, q_118, q_1527, by decide +kernel, by decide +kernel⟩
theorem kL_proposalAt : ts_Yw yL_proposalAt cL_proposalAt 4 (some .int) [(0, 9, 12, 24)] 3 := ⟨q_1533, q_118, q_1534, by decide +kernel, by decide +kernel⟩
theorem kL_position : ts_Yw yL_position cL_position 4 (some .int) [(0, 9, 12, 24)] 3 := ⟨q_1545, q_118, q_1546, by decide +kernel, by decide +kernel⟩
theorem kL_motionKind : ts_Yw yL_motionKind cL_motionKind 4 (some .int) [(0, 9, 12, 24)] 3 := ⟨q_1559, q_118, q_1560, by decide +kernel, by decide +kernel⟩
theorem kL_amendment : ts_Yw yL_amendment cL_amendment 3 (some .int) [(0, 8, 11, 24)] 2 := ⟨q_1567, q_118, q_1568, by decide +kernel, by decide +kernel⟩
theorem kL_mainProposal : ts_Yw yL_mainProposal cL_mainProposal 3 (some .int) [(0, 8, 11, 24)] 2 := ⟨q_1579, q_118, q_1580, by decide +kernel, by decide +kernel⟩
theorem kL_canMove : ts_Yw yL_canMove cL_canMove 4 (some .int) [(0, 16, 19, 13)] 3 := ⟨q_1587, q_118, q_1588, by decide +kernel, by decide +kernel⟩
theorem kL_yesVotes : ts_Yw yL_yesVotes cL_yesVotes 3 (some .int) [(0, 8, 11, 24)] 2 := ⟨q_1643, q_118, q_1644, by decide +kernel, by decide +kernel⟩
theorem kL_wouldPass : ts_Yw yL_wouldPass cL_wouldPass 3 (some .int) [(0, 15, 18, 24)] 2 := ⟨q_1656, q_118, q_1657, by decide +kernel, by decide +kernel⟩
theorem kL_votesYes : ts_Yw yL_votesYes cL_votesYes 4 (some .int) [(0, 16, 19, 44), (0, 16, 22, 24)] 3 := ⟨q_1664, q_118, q_1665, by decide +kernel, by decide +kernel⟩
theorem kL_support : ts_Yw yL_support cL_support 5 (some .int) [(0, 10, 13, 24)] 4 := ⟨q_1673, q_118, q_1674, by decide +kernel, by decide +kernel⟩
theorem kL_bestOrder : ts_Yw yL_bestOrder cL_bestOrder 4 (some .int) [(0, 9, 12, 24)] 3 := ⟨q_1681, q_118, q_1682, by decide +kernel, by decide +kernel⟩
theorem kL_isInTop : ts_Yw yL_isInTop cL_isInTop 4 (some .int) [(0, 16, 19, 24)] 3 := ⟨q_1697, q_118, q_1698, by decide +kernel, by decide +kernel⟩
theorem kL_isInTopBySets : ts_Yw yL_isInTopBySets cL_isInTopBySets 4 (some .int) [(0, 16, 19, 24)] 3 := ⟨q_1705, q_118, q_1706, by decide +kernel, by decide +kernel⟩
theorem kL_isWet : ts_Yw yL_isWet cL_isWet 5 (some .int) [(0, 17, 20, 44)] 4 := ⟨q_1714, q_118, q_1715, by decide +kernel, by decide +kernel⟩
theorem kL_puddle : ts_Yw yL_puddle cL_puddle 5 (some .int) [(0, 10, 13, 44)] 4 := ⟨q_1728, q_118, q_1729, by decide +kernel, by decide +kernel⟩
theorem kL_puddleByGroups : ts_Yw yL_puddleByGroups cL_puddleByGroups 5 (some .int) [(0, 10, 13, 44)] 4 := ⟨q_1737, q_118, q_1738, by decide +kernel, by decide +kernel⟩
theorem kL_spoonBySugar : ts_Yw yL_spoonBySugar cL_spoonBySugar 4 (some .int) [(0, 9, 12, 24)] 3 := ⟨q_1746, q_118, q_1747, by decide +kernel, by decide +kernel⟩
theorem kL_minute : ts_Yw yL_minute cL_minute 4 (some .int) [(0, 9, 12, 24)] 3 := ⟨q_1762, q_118, q_1763, by decide +kernel, by decide +kernel⟩
theorem kL_meanStance : ts_Yw yL_meanStance cL_meanStance 3 (some .int) [(0, 7, 10, 134)] 2 := ⟨q_1778, q_118, q_1779, by decide +kernel, by decide +kernel⟩
theorem kL_adoptedShare : ts_Yw yL_adoptedShare cL_adoptedShare 3 (some .int) [(0, 8, 11, 134)] 2 := ⟨q_1806, q_118, q_1807, by decide +kernel, by decide +kernel⟩
theorem kL_outputAt : ts_Yw yL_outputAt cL_outputAt 4 (some .int) [(0, 9, 12, 44)] 3 := ⟨q_1814, q_118, q_1815, by decide +kernel, by decide +kernel⟩
theorem kL_type : ts_Yw yL_type cL_type 4 (some .int) [(0, 9, 12, 13), (0, 9, 15, 15)] 3 := ⟨q_1832, q_118, q_1833, by decide +kernel, by decide +kernel⟩
theorem kL_runScript : ts_Yw yL_runScript cL_runScript 3 (some .int) [(0, 8, 11, 13), (0, 8, 14, 15)] 2 := ⟨q_1849, q_118, q_1850, by decide +kernel, by decide +kernel⟩
theorem kL_errorPosition : ts_Yw yL_errorPosition cL_errorPosition 3 (some .int) [(0, 8, 11, 24)] 2 := ⟨q_1913, q_118, q_1914, by decide +kernel, by decide +kernel⟩
theorem kL_failedCommand : ts_Yw yL_failedCommand cL_failedCommand 3 (some .int) [(0, 8, 11, 24)] 2 := ⟨q_1921, q_118, q_1922, by decide +kernel, by decide +kernel⟩
theorem kL_undo : ts_Yw yL_undo cL_undo 3 (some .int) [(0, 8, 11, 15)] 2 := ⟨q_1929, q_118, q_1930, by decide +kernel, by decide +kernel⟩
theorem kL_restore : ts_Yw yL_restore cL_restore 3 (some .int) [(0, 8, 11, 15)] 2 := ⟨q_1941, q_118, q_1942, by decide +kernel, by decide +kernel⟩
