theorem kbipush_m2 : (Int8.ofInt (-2)).toInt32 = (-2 : Int32) := by decide
theorem kbipush_6 : (Int8.ofInt (6)).toInt32 = (6 : Int32) := by decide
theorem kbipush_7 : (Int8.ofInt (7)).toInt32 = (7 : Int32) := by decide
theorem kbipush_8 : (Int8.ofInt (8)).toInt32 = (8 : Int32) := by decide
theorem kbipush_9 : (Int8.ofInt (9)).toInt32 = (9 : Int32) := by decide
theorem kbipush_10 : (Int8.ofInt (10)).toInt32 = (10 : Int32) := by decide
theorem kbipush_11 : (Int8.ofInt (11)).toInt32 = (11 : Int32) := by decide
theorem kbipush_12 : (Int8.ofInt (12)).toInt32 = (12 : Int32) := by decide
theorem kbipush_14 : (Int8.ofInt (14)).toInt32 = (14 : Int32) := by decide
theorem kbipush_18 : (Int8.ofInt (18)).toInt32 = (18 : Int32) := by decide
theorem kbipush_20 : (Int8.ofInt (20)).toInt32 = (20 : Int32) := by decide
theorem kbipush_21 : (Int8.ofInt (21)).toInt32 = (21 : Int32) := by decide
theorem kbipush_22 : (Int8.ofInt (22)).toInt32 = (22 : Int32) := by decide
theorem kbipush_23 : (Int8.ofInt (23)).toInt32 = (23 : Int32) := by decide
theorem kbipush_24 : (Int8.ofInt (24)).toInt32 = (24 : Int32) := by decide
theorem kbipush_30 : (Int8.ofInt (30)).toInt32 = (30 : Int32) := by decide
theorem kbipush_32 : (Int8.ofInt (32)).toInt32 = (32 : Int32) := by decide
theorem kbipush_34 : (Int8.ofInt (34)).toInt32 = (34 : Int32) := by decide
theorem kbipush_35 : (Int8.ofInt (35)).toInt32 = (35 : Int32) := by decide
theorem kbipush_36 : (Int8.ofInt (36)).toInt32 = (36 : Int32) := by decide
theorem kbipush_37 : (Int8.ofInt (37)).toInt32 = (37 : Int32) := by decide
theorem kbipush_38 : (Int8.ofInt (38)).toInt32 = (38 : Int32) := by decide
theorem kbipush_40 : (Int8.ofInt (40)).toInt32 = (40 : Int32) := by decide
theorem kbipush_41 : (Int8.ofInt (41)).toInt32 = (41 : Int32) := by decide
theorem kbipush_42 : (Int8.ofInt (42)).toInt32 = (42 : Int32) := by decide
theorem kbipush_43 : (Int8.ofInt (43)).toInt32 = (43 : Int32) := by decide
theorem kbipush_45 : (Int8.ofInt (45)).toInt32 = (45 : Int32) := by decide
theorem kbipush_47 : (Int8.ofInt (47)).toInt32 = (47 : Int32) := by decide
theorem kbipush_48 : (Int8.ofInt (48)).toInt32 = (48 : Int32) := by decide
theorem kbipush_57 : (Int8.ofInt (57)).toInt32 = (57 : Int32) := by decide
theorem kbipush_59 : (Int8.ofInt (59)).toInt32 = (59 : Int32) := by decide
theorem kbipush_60 : (Int8.ofInt (60)).toInt32 = (60 : Int32) := by decide
theorem kbipush_61 : (Int8.ofInt (61)).toInt32 = (61 : Int32) := by decide
theorem kbipush_62 : (Int8.ofInt (62)).toInt32 = (62 : Int32) := by decide
theorem kbipush_97 : (Int8.ofInt (97)).toInt32 = (97 : Int32) := by decide
theorem kbipush_99 : (Int8.ofInt (99)).toInt32 = (99 : Int32) := by decide
theorem kbipush_100 : (Int8.ofInt (100)).toInt32 = (100 : Int32) := by decide
theorem kbipush_122 : (Int8.ofInt (122)).toInt32 = (122 : Int32) := by decide
theorem kbipush_124 : (Int8.ofInt (124)).toInt32 = (124 : Int32) := by decide
theorem kiconst_m8 : Int32.ofInt (-8) = (-8 : Int32) := by decide
theorem kiconst_m1 : Int32.ofInt (-1) = (-1 : Int32) := by decide
theorem kiconst_0 : Int32.ofInt (0) = (0 : Int32) := by decide
theorem kiconst_1 : Int32.ofInt (1) = (1 : Int32) := by decide
theorem kiconst_2 : Int32.ofInt (2) = (2 : Int32) := by decide
theorem kiconst_3 : Int32.ofInt (3) = (3 : Int32) := by decide
theorem kiconst_4 : Int32.ofInt (4) = (4 : Int32) := by decide
theorem kiconst_5 : Int32.ofInt (5) = (5 : Int32) := by decide
theorem ksipush_240 : (Int16.ofInt (240)).toInt32 = (240 : Int32) := by decide
theorem ksipush_255 : (Int16.ofInt (255)).toInt32 = (255 : Int32) := by decide
theorem ksipush_320 : (Int16.ofInt (320)).toInt32 = (320 : Int32) := by decide
theorem ksipush_364 : (Int16.ofInt (364)).toInt32 = (364 : Int32) := by decide
theorem ksipush_365 : (Int16.ofInt (365)).toInt32 = (365 : Int32) := by decide
theorem ksipush_1000 : (Int16.ofInt (1000)).toInt32 = (1000 : Int32) := by decide
theorem ksipush_1443 : (Int16.ofInt (1443)).toInt32 = (1443 : Int32) := by decide
theorem ksipush_1600 : (Int16.ofInt (1600)).toInt32 = (1600 : Int32) := by decide
theorem ksipush_10000 : (Int16.ofInt (10000)).toInt32 = (10000 : Int32) := by decide
theorem cn12_486 : Cond.constant RX12 486 (-1000000 : Int32) ∈ WT := wt_mem 1903 (by decide +kernel) rfl
theorem cn12_499 : Cond.constant RX12 499 (16777215 : Int32) ∈ WT := wt_mem 1940 (by decide +kernel) rfl
theorem cn12_524 : Cond.constant RX12 524 (100000 : Int32) ∈ WT := wt_mem 2011 (by decide +kernel) rfl
theorem cl12_200 : Cond.constantLong RX12 200 (123581014175598 : Int64) ∈ WT := wt_mem 1600 (by decide +kernel) rfl
theorem cl12_202 : Cond.constantLong RX12 202 (24948 : Int64) ∈ WT := wt_mem 1617 (by decide +kernel) rfl
theorem cl12_204 : Cond.constantLong RX12 204 (474214787188 : Int64) ∈ WT := wt_mem 1618 (by decide +kernel) rfl
theorem cl12_206 : Cond.constantLong RX12 206 (448445441893 : Int64) ∈ WT := wt_mem 1619 (by decide +kernel) rfl
theorem cl12_208 : Cond.constantLong RX12 208 (1835361652 : Int64) ∈ WT := wt_mem 1620 (by decide +kernel) rfl
theorem cl12_210 : Cond.constantLong RX12 210 (448546566771 : Int64) ∈ WT := wt_mem 1621 (by decide +kernel) rfl
theorem cl12_212 : Cond.constantLong RX12 212 (512970880104 : Int64) ∈ WT := wt_mem 1622 (by decide +kernel) rfl
theorem cl12_214 : Cond.constantLong RX12 214 (474315584357 : Int64) ∈ WT := wt_mem 1623 (by decide +kernel) rfl
theorem cl12_216 : Cond.constantLong RX12 216 (1819243876 : Int64) ∈ WT := wt_mem 1624 (by decide +kernel) rfl
theorem cl12_218 : Cond.constantLong RX12 218 (33602636119176556 : Int64) ∈ WT := wt_mem 1625 (by decide +kernel) rfl
theorem cl12_220 : Cond.constantLong RX12 220 (1684109166 : Int64) ∈ WT := wt_mem 1626 (by decide +kernel) rfl
theorem cl12_222 : Cond.constantLong RX12 222 (1685418859 : Int64) ∈ WT := wt_mem 1627 (by decide +kernel) rfl
theorem cl12_224 : Cond.constantLong RX12 224 (1751216749 : Int64) ∈ WT := wt_mem 1628 (by decide +kernel) rfl
theorem cl12_226 : Cond.constantLong RX12 226 (1684108389 : Int64) ∈ WT := wt_mem 1629 (by decide +kernel) rfl
theorem cl12_228 : Cond.constantLong RX12 228 (1752135026 : Int64) ∈ WT := wt_mem 1630 (by decide +kernel) rfl
theorem cl12_230 : Cond.constantLong RX12 230 (6709618 : Int64) ∈ WT := wt_mem 1631 (by decide +kernel) rfl
theorem cl12_232 : Cond.constantLong RX12 232 (6385252 : Int64) ∈ WT := wt_mem 1632 (by decide +kernel) rfl
theorem cl12_234 : Cond.constantLong RX12 234 (28530 : Int64) ∈ WT := wt_mem 1633 (by decide +kernel) rfl
theorem cl12_236 : Cond.constantLong RX12 236 (7237492 : Int64) ∈ WT := wt_mem 1634 (by decide +kernel) rfl
theorem ml12_160 : Cond.methodLink RX12 160 yX12_four ∈ WT := wt_mem 1563 (by decide +kernel) rfl
theorem ml12_170 : Cond.methodLink RX12 170 yX12_here ∈ WT := wt_mem 1583 (by decide +kernel) rfl
theorem ml12_187 : Cond.methodLink RX12 187 yX12_isLetter ∈ WT := wt_mem 1587 (by decide +kernel) rfl
theorem ml12_191 : Cond.methodLink RX12 191 yX12_isDigit ∈ WT := wt_mem 1590 (by decide +kernel) rfl
theorem ml12_194 : Cond.methodLink RX12 194 yX12_isSign ∈ WT := wt_mem 1593 (by decide +kernel) rfl
theorem ml12_238 : Cond.methodLink RX12 238 yX12_isOwn ∈ WT := wt_mem 1613 (by decide +kernel) rfl
theorem ml12_242 : Cond.methodLink RX12 242 yX12_isWord ∈ WT := wt_mem 1601 (by decide +kernel) rfl
theorem ml12_246 : Cond.methodLink RX12 246 yX12_wrong ∈ WT := wt_mem 1635 (by decide +kernel) rfl
theorem ml12_249 : Cond.methodLink RX12 249 yX12_token ∈ WT := wt_mem 1579 (by decide +kernel) rfl
theorem ml12_252 : Cond.methodLink RX12 252 yX12_want ∈ WT := wt_mem 1647 (by decide +kernel) rfl
theorem ml12_256 : Cond.methodLink RX12 256 yX12_toldNumber ∈ WT := wt_mem 1651 (by decide +kernel) rfl
theorem ml12_263 : Cond.methodLink RX12 263 yX12_isName ∈ WT := wt_mem 1609 (by decide +kernel) rfl
theorem ml12_266 : Cond.methodLink RX12 266 yX12_find ∈ WT := wt_mem 1639 (by decide +kernel) rfl
theorem ml12_276 : Cond.methodLink RX12 276 yX12_tight ∈ WT := wt_mem 1691 (by decide +kernel) rfl
theorem ml12_279 : Cond.methodLink RX12 279 yX12_add ∈ WT := wt_mem 1710 (by decide +kernel) rfl
theorem ml12_292 : Cond.methodLink RX12 292 yX12_mayNot ∈ WT := wt_mem 1687 (by decide +kernel) rfl
theorem ml12_295 : Cond.methodLink RX12 295 yX12_openUp ∈ WT := wt_mem 1694 (by decide +kernel) rfl
theorem ml12_298 : Cond.methodLink RX12 298 yX12_isFull ∈ WT := wt_mem 1698 (by decide +kernel) rfl
theorem ml12_301 : Cond.methodLink RX12 301 yX12_countUnit ∈ WT := wt_mem 1702 (by decide +kernel) rfl
theorem ml12_304 : Cond.methodLink RX12 304 yX12_asked ∈ WT := wt_mem 1706 (by decide +kernel) rfl
theorem ml12_307 : Cond.methodLink RX12 307 yX12_unit ∈ WT := wt_mem 1683 (by decide +kernel) rfl
theorem ml12_310 : Cond.methodLink RX12 310 yX12_sign ∈ WT := wt_mem 1714 (by decide +kernel) rfl
theorem ml12_313 : Cond.methodLink RX12 313 yX12_hasBracket ∈ WT := wt_mem 1718 (by decide +kernel) rfl
theorem ml12_316 : Cond.methodLink RX12 316 yX12_close ∈ WT := wt_mem 1722 (by decide +kernel) rfl
theorem ml12_319 : Cond.methodLink RX12 319 yX12_hasRelation ∈ WT := wt_mem 1726 (by decide +kernel) rfl
theorem ml12_322 : Cond.methodLink RX12 322 yX12_truth ∈ WT := wt_mem 1769 (by decide +kernel) rfl
theorem ml12_326 : Cond.methodLink RX12 326 yX12_done ∈ WT := wt_mem 1772 (by decide +kernel) rfl
theorem ml12_330 : Cond.methodLink RX12 330 yX12_told ∈ WT := wt_mem 1643 (by decide +kernel) rfl
theorem ml12_337 : Cond.methodLink RX12 337 yX12_oldPerson ∈ WT := wt_mem 1659 (by decide +kernel) rfl
theorem ml12_340 : Cond.methodLink RX12 340 yX12_isMeetTold ∈ WT := wt_mem 1663 (by decide +kernel) rfl
theorem ml12_347 : Cond.methodLink RX12 347 yX12_isNoiseTold ∈ WT := wt_mem 1671 (by decide +kernel) rfl
theorem ml12_350 : Cond.methodLink RX12 350 yX12_readPerson ∈ WT := wt_mem 1605 (by decide +kernel) rfl
theorem ml12_353 : Cond.methodLink RX12 353 yX12_readMeet ∈ WT := wt_mem 1655 (by decide +kernel) rfl
theorem ml12_356 : Cond.methodLink RX12 356 yX12_readNoise ∈ WT := wt_mem 1667 (by decide +kernel) rfl
theorem ml12_359 : Cond.methodLink RX12 359 yX12_readWakeful ∈ WT := wt_mem 1675 (by decide +kernel) rfl
theorem ml12_362 : Cond.methodLink RX12 362 yX12_formula ∈ WT := wt_mem 1679 (by decide +kernel) rfl
theorem ml12_372 : Cond.methodLink RX12 372 yX12_readLine ∈ WT := wt_mem 1596 (by decide +kernel) rfl
theorem ml12_375 : Cond.methodLink RX12 375 yX12_readAll ∈ WT := wt_mem 1575 (by decide +kernel) rfl
theorem ml12_402 : Cond.methodLink RX12 402 yX12_isIn ∈ WT := wt_mem 1742 (by decide +kernel) rfl
theorem ml12_406 : Cond.methodLink RX12 406 yX12_askOf ∈ WT := wt_mem 1761 (by decide +kernel) rfl
theorem ml12_410 : Cond.methodLink RX12 410 yX12_worked ∈ WT := wt_mem 1765 (by decide +kernel) rfl
theorem ml12_414 : Cond.methodLink RX12 414 yX12_apart ∈ WT := wt_mem 1782 (by decide +kernel) rfl
theorem ml12_417 : Cond.methodLink RX12 417 yX12_dawnOf ∈ WT := wt_mem 1757 (by decide +kernel) rfl
theorem ml12_420 : Cond.methodLink RX12 420 yX12_duskOf ∈ WT := wt_mem 1775 (by decide +kernel) rfl
theorem ml12_423 : Cond.methodLink RX12 423 yX12_isHinge ∈ WT := wt_mem 1779 (by decide +kernel) rfl
theorem ml12_426 : Cond.methodLink RX12 426 yX12_load ∈ WT := wt_mem 1749 (by decide +kernel) rfl
theorem ml12_429 : Cond.methodLink RX12 429 yX12_layDate ∈ WT := wt_mem 1753 (by decide +kernel) rfl
theorem ml12_432 : Cond.methodLink RX12 432 yX12_isAwake ∈ WT := wt_mem 1785 (by decide +kernel) rfl
theorem ml12_435 : Cond.methodLink RX12 435 yX12_harmBy ∈ WT := wt_mem 1793 (by decide +kernel) rfl
theorem ml12_438 : Cond.methodLink RX12 438 yX12_harmOf ∈ WT := wt_mem 1895 (by decide +kernel) rfl
theorem ml12_441 : Cond.methodLink RX12 441 yX12_members ∈ WT := wt_mem 1813 (by decide +kernel) rfl
theorem ml12_444 : Cond.methodLink RX12 444 yX12_commonOf ∈ WT := wt_mem 1809 (by decide +kernel) rfl
theorem ml12_447 : Cond.methodLink RX12 447 yX12_canMeet ∈ WT := wt_mem 1805 (by decide +kernel) rfl
theorem ml12_450 : Cond.methodLink RX12 450 yX12_isPerson ∈ WT := wt_mem 1738 (by decide +kernel) rfl
theorem ml12_453 : Cond.methodLink RX12 453 yX12_loadDate ∈ WT := wt_mem 1745 (by decide +kernel) rfl
theorem ml12_456 : Cond.methodLink RX12 456 yX12_harmAt ∈ WT := wt_mem 1789 (by decide +kernel) rfl
theorem ml12_459 : Cond.methodLink RX12 459 yX12_isMeet ∈ WT := wt_mem 1801 (by decide +kernel) rfl
theorem ml12_462 : Cond.methodLink RX12 462 yX12_isDate ∈ WT := wt_mem 1820 (by decide +kernel) rfl
theorem ml12_465 : Cond.methodLink RX12 465 yX12_awakeSet ∈ WT := wt_mem 1827 (by decide +kernel) rfl
theorem ml12_468 : Cond.methodLink RX12 468 yX12_act ∈ WT := wt_mem 1839 (by decide +kernel) rfl
theorem ml12_471 : Cond.methodLink RX12 471 yX12_goDate ∈ WT := wt_mem 1851 (by decide +kernel) rfl
theorem ml12_474 : Cond.methodLink RX12 474 yX12_exchange ∈ WT := wt_mem 1859 (by decide +kernel) rfl
theorem ml12_477 : Cond.methodLink RX12 477 yX12_canSet ∈ WT := wt_mem 1875 (by decide +kernel) rfl
theorem ml12_480 : Cond.methodLink RX12 480 yX12_canOn ∈ WT := wt_mem 1883 (by decide +kernel) rfl
theorem ml12_483 : Cond.methodLink RX12 483 yX12_allHarm ∈ WT := wt_mem 1908 (by decide +kernel) rfl
theorem ml12_487 : Cond.methodLink RX12 487 yX12_blissHere ∈ WT := wt_mem 1904 (by decide +kernel) rfl
theorem ml12_490 : Cond.methodLink RX12 490 yX12_laySides ∈ WT := wt_mem 1916 (by decide +kernel) rfl
theorem ml12_493 : Cond.methodLink RX12 493 yX12_putSides ∈ WT := wt_mem 1920 (by decide +kernel) rfl
theorem ml12_496 : Cond.methodLink RX12 496 yX12_joyHere ∈ WT := wt_mem 1928 (by decide +kernel) rfl
theorem ml12_500 : Cond.methodLink RX12 500 yX12_bestSide ∈ WT := wt_mem 1949 (by decide +kernel) rfl
theorem ml12_503 : Cond.methodLink RX12 503 yX12_areServed ∈ WT := wt_mem 1957 (by decide +kernel) rfl
theorem ml12_506 : Cond.methodLink RX12 506 yX12_haveMeet ∈ WT := wt_mem 1973 (by decide +kernel) rfl
theorem ml12_509 : Cond.methodLink RX12 509 yX12_handedOn ∈ WT := wt_mem 1969 (by decide +kernel) rfl
theorem ml12_512 : Cond.methodLink RX12 512 yX12_goLetters ∈ WT := wt_mem 1965 (by decide +kernel) rfl
theorem ml12_515 : Cond.methodLink RX12 515 yX12_divisor ∈ WT := wt_mem 1989 (by decide +kernel) rfl
theorem ml12_518 : Cond.methodLink RX12 518 yX12_isLitPlace ∈ WT := wt_mem 2000 (by decide +kernel) rfl
theorem ml12_525 : Cond.methodLink RX12 525 yX12_lightsAt ∈ WT := wt_mem 2024 (by decide +kernel) rfl
theorem ml12_528 : Cond.methodLink RX12 528 yX12_isFit ∈ WT := wt_mem 2020 (by decide +kernel) rfl
theorem ml12_531 : Cond.methodLink RX12 531 yX12_layFits ∈ WT := wt_mem 2016 (by decide +kernel) rfl
theorem ml12_534 : Cond.methodLink RX12 534 yX12_isBox ∈ WT := wt_mem 2040 (by decide +kernel) rfl
theorem okX12_four : mOK yX12_four cX12_four 3 none 1 := ⟨wt_mem 122 (by decide +kernel) rfl, wt_mem 1566 (by decide +kernel) rfl, by decide +kernel, by decide +kernel, by decide +kernel⟩
theorem inX12_four : Cond.instanceMethod yX12_four ∈ WT ∧ Cond.selects (yX12_four).cls yX12_four yX12_four ∈ WT := ⟨wt_mem 1565 (by decide +kernel) rfl, wt_mem 39 (by decide +kernel) rfl⟩
theorem okX12_feed : mOK yX12_feed cX12_feed 6 (some .int) 5 := ⟨wt_mem 122 (by decide +kernel) rfl, wt_mem 1562 (by decide +kernel) rfl, by decide +kernel, by decide +kernel, by decide +kernel⟩
theorem inX12_feed : Cond.instanceMethod yX12_feed ∈ WT ∧ Cond.selects (yX12_feed).cls yX12_feed yX12_feed ∈ WT := ⟨wt_mem 1560 (by decide +kernel) rfl, wt_mem 1561 (by decide +kernel) rfl⟩
theorem okX12_end : mOK yX12_end cX12_end 2 (some .int) 1 := ⟨wt_mem 122 (by decide +kernel) rfl, wt_mem 1570 (by decide +kernel) rfl, by decide +kernel, by decide +kernel, by decide +kernel⟩
theorem inX12_end : Cond.instanceMethod yX12_end ∈ WT ∧ Cond.selects (yX12_end).cls yX12_end yX12_end ∈ WT := ⟨wt_mem 1568 (by decide +kernel) rfl, wt_mem 1569 (by decide +kernel) rfl⟩
theorem okX12_here : mOK yX12_here cX12_here 2 (some .int) 1 := ⟨wt_mem 122 (by decide +kernel) rfl, wt_mem 1586 (by decide +kernel) rfl, by decide +kernel, by decide +kernel, by decide +kernel⟩
theorem inX12_here : Cond.instanceMethod yX12_here ∈ WT ∧ Cond.selects (yX12_here).cls yX12_here yX12_here ∈ WT := ⟨wt_mem 1585 (by decide +kernel) rfl, wt_mem 42 (by decide +kernel) rfl⟩
theorem okX12_isLetter : mOK yX12_isLetter cX12_isLetter 1 (some .boolean) 1 := ⟨wt_mem 122 (by decide +kernel) rfl, wt_mem 1589 (by decide +kernel) rfl, by decide +kernel, by decide +kernel, by decide +kernel⟩
theorem stX12_isLetter : Cond.static yX12_isLetter ∈ WT := wt_mem 1588 (by decide +kernel) rfl
theorem okX12_isDigit : mOK yX12_isDigit cX12_isDigit 1 (some .boolean) 1 := ⟨wt_mem 122 (by decide +kernel) rfl, wt_mem 1592 (by decide +kernel) rfl, by decide +kernel, by decide +kernel, by decide +kernel⟩
theorem stX12_isDigit : Cond.static yX12_isDigit ∈ WT := wt_mem 1591 (by decide +kernel) rfl
theorem okX12_isSign : mOK yX12_isSign cX12_isSign 1 (some .boolean) 1 := ⟨wt_mem 122 (by decide +kernel) rfl, wt_mem 1595 (by decide +kernel) rfl, by decide +kernel, by decide +kernel, by decide +kernel⟩
theorem stX12_isSign : Cond.static yX12_isSign ∈ WT := wt_mem 1594 (by decide +kernel) rfl
theorem okX12_token : mOK yX12_token cX12_token 3 none 0 := ⟨wt_mem 122 (by decide +kernel) rfl, wt_mem 1582 (by decide +kernel) rfl, by decide +kernel, by decide +kernel, by decide +kernel⟩
theorem inX12_token : Cond.instanceMethod yX12_token ∈ WT ∧ Cond.selects (yX12_token).cls yX12_token yX12_token ∈ WT := ⟨wt_mem 1581 (by decide +kernel) rfl, wt_mem 41 (by decide +kernel) rfl⟩
theorem okX12_wrong : mOK yX12_wrong cX12_wrong 2 none 1 := ⟨wt_mem 122 (by decide +kernel) rfl, wt_mem 1638 (by decide +kernel) rfl, by decide +kernel, by decide +kernel, by decide +kernel⟩
theorem inX12_wrong : Cond.instanceMethod yX12_wrong ∈ WT ∧ Cond.selects (yX12_wrong).cls yX12_wrong yX12_wrong ∈ WT := ⟨wt_mem 1637 (by decide +kernel) rfl, wt_mem 48 (by decide +kernel) rfl⟩
theorem okX12_isWord : mOK yX12_isWord cX12_isWord 3 (some .boolean) 1 := ⟨wt_mem 122 (by decide +kernel) rfl, wt_mem 1604 (by decide +kernel) rfl, by decide +kernel, by decide +kernel, by decide +kernel⟩
theorem inX12_isWord : Cond.instanceMethod yX12_isWord ∈ WT ∧ Cond.selects (yX12_isWord).cls yX12_isWord yX12_isWord ∈ WT := ⟨wt_mem 1603 (by decide +kernel) rfl, wt_mem 44 (by decide +kernel) rfl⟩
theorem okX12_isOwn : mOK yX12_isOwn cX12_isOwn 1 (some .boolean) 0 := ⟨wt_mem 122 (by decide +kernel) rfl, wt_mem 1616 (by decide +kernel) rfl, by decide +kernel, by decide +kernel, by decide +kernel⟩
theorem inX12_isOwn : Cond.instanceMethod yX12_isOwn ∈ WT ∧ Cond.selects (yX12_isOwn).cls yX12_isOwn yX12_isOwn ∈ WT := ⟨wt_mem 1615 (by decide +kernel) rfl, wt_mem 47 (by decide +kernel) rfl⟩
theorem okX12_isName : mOK yX12_isName cX12_isName 1 (some .boolean) 0 := ⟨wt_mem 122 (by decide +kernel) rfl, wt_mem 1612 (by decide +kernel) rfl, by decide +kernel, by decide +kernel, by decide +kernel⟩
theorem inX12_isName : Cond.instanceMethod yX12_isName ∈ WT ∧ Cond.selects (yX12_isName).cls yX12_isName yX12_isName ∈ WT := ⟨wt_mem 1611 (by decide +kernel) rfl, wt_mem 46 (by decide +kernel) rfl⟩
theorem okX12_want : mOK yX12_want cX12_want 3 none 1 := ⟨wt_mem 122 (by decide +kernel) rfl, wt_mem 1650 (by decide +kernel) rfl, by decide +kernel, by decide +kernel, by decide +kernel⟩
theorem inX12_want : Cond.instanceMethod yX12_want ∈ WT ∧ Cond.selects (yX12_want).cls yX12_want yX12_want ∈ WT := ⟨wt_mem 1649 (by decide +kernel) rfl, wt_mem 51 (by decide +kernel) rfl⟩
theorem okX12_toldNumber : mOK yX12_toldNumber cX12_toldNumber 4 (some .int) 2 := ⟨wt_mem 122 (by decide +kernel) rfl, wt_mem 1654 (by decide +kernel) rfl, by decide +kernel, by decide +kernel, by decide +kernel⟩
theorem inX12_toldNumber : Cond.instanceMethod yX12_toldNumber ∈ WT ∧ Cond.selects (yX12_toldNumber).cls yX12_toldNumber yX12_toldNumber ∈ WT := ⟨wt_mem 1653 (by decide +kernel) rfl, wt_mem 52 (by decide +kernel) rfl⟩
theorem okX12_told : mOK yX12_told cX12_told 5 (some .int) 3 := ⟨wt_mem 122 (by decide +kernel) rfl, wt_mem 1646 (by decide +kernel) rfl, by decide +kernel, by decide +kernel, by decide +kernel⟩
theorem inX12_told : Cond.instanceMethod yX12_told ∈ WT ∧ Cond.selects (yX12_told).cls yX12_told yX12_told ∈ WT := ⟨wt_mem 1645 (by decide +kernel) rfl, wt_mem 50 (by decide +kernel) rfl⟩
theorem okX12_find : mOK yX12_find cX12_find 3 (some .int) 0 := ⟨wt_mem 122 (by decide +kernel) rfl, wt_mem 1642 (by decide +kernel) rfl, by decide +kernel, by decide +kernel, by decide +kernel⟩
theorem inX12_find : Cond.instanceMethod yX12_find ∈ WT ∧ Cond.selects (yX12_find).cls yX12_find yX12_find ∈ WT := ⟨wt_mem 1641 (by decide +kernel) rfl, wt_mem 49 (by decide +kernel) rfl⟩
theorem okX12_oldPerson : mOK yX12_oldPerson cX12_oldPerson 1 (some .int) 0 := ⟨wt_mem 122 (by decide +kernel) rfl, wt_mem 1662 (by decide +kernel) rfl, by decide +kernel, by decide +kernel, by decide +kernel⟩
theorem inX12_oldPerson : Cond.instanceMethod yX12_oldPerson ∈ WT ∧ Cond.selects (yX12_oldPerson).cls yX12_oldPerson yX12_oldPerson ∈ WT := ⟨wt_mem 1661 (by decide +kernel) rfl, wt_mem 54 (by decide +kernel) rfl⟩
theorem okX12_add : mOK yX12_add cX12_add 3 none 2 := ⟨wt_mem 122 (by decide +kernel) rfl, wt_mem 1713 (by decide +kernel) rfl, by decide +kernel, by decide +kernel, by decide +kernel⟩
theorem inX12_add : Cond.instanceMethod yX12_add ∈ WT ∧ Cond.selects (yX12_add).cls yX12_add yX12_add ∈ WT := ⟨wt_mem 1712 (by decide +kernel) rfl, wt_mem 66 (by decide +kernel) rfl⟩
theorem okX12_tight : mOK yX12_tight cX12_tight 1 (some .int) 1 := ⟨wt_mem 122 (by decide +kernel) rfl, wt_mem 1693 (by decide +kernel) rfl, by decide +kernel, by decide +kernel, by decide +kernel⟩
theorem stX12_tight : Cond.static yX12_tight ∈ WT := wt_mem 1692 (by decide +kernel) rfl
theorem okX12_close : mOK yX12_close cX12_close 2 none 1 := ⟨wt_mem 122 (by decide +kernel) rfl, wt_mem 1725 (by decide +kernel) rfl, by decide +kernel, by decide +kernel, by decide +kernel⟩
theorem inX12_close : Cond.instanceMethod yX12_close ∈ WT ∧ Cond.selects (yX12_close).cls yX12_close yX12_close ∈ WT := ⟨wt_mem 1724 (by decide +kernel) rfl, wt_mem 69 (by decide +kernel) rfl⟩
theorem okX12_hasRelation : mOK yX12_hasRelation cX12_hasRelation 2 (some .boolean) 0 := ⟨wt_mem 122 (by decide +kernel) rfl, wt_mem 1729 (by decide +kernel) rfl, by decide +kernel, by decide +kernel, by decide +kernel⟩
theorem inX12_hasRelation : Cond.instanceMethod yX12_hasRelation ∈ WT ∧ Cond.selects (yX12_hasRelation).cls yX12_hasRelation yX12_hasRelation ∈ WT := ⟨wt_mem 1728 (by decide +kernel) rfl, wt_mem 70 (by decide +kernel) rfl⟩
theorem okX12_mayNot : mOK yX12_mayNot cX12_mayNot 1 (some .boolean) 0 := ⟨wt_mem 122 (by decide +kernel) rfl, wt_mem 1690 (by decide +kernel) rfl, by decide +kernel, by decide +kernel, by decide +kernel⟩
theorem inX12_mayNot : Cond.instanceMethod yX12_mayNot ∈ WT ∧ Cond.selects (yX12_mayNot).cls yX12_mayNot yX12_mayNot ∈ WT := ⟨wt_mem 1689 (by decide +kernel) rfl, wt_mem 61 (by decide +kernel) rfl⟩
theorem okX12_asked : mOK yX12_asked cX12_asked 1 (some .int) 0 := ⟨wt_mem 122 (by decide +kernel) rfl, wt_mem 1709 (by decide +kernel) rfl, by decide +kernel, by decide +kernel, by decide +kernel⟩
theorem inX12_asked : Cond.instanceMethod yX12_asked ∈ WT ∧ Cond.selects (yX12_asked).cls yX12_asked yX12_asked ∈ WT := ⟨wt_mem 1708 (by decide +kernel) rfl, wt_mem 65 (by decide +kernel) rfl⟩
theorem okX12_isFull : mOK yX12_isFull cX12_isFull 1 (some .boolean) 0 := ⟨wt_mem 122 (by decide +kernel) rfl, wt_mem 1701 (by decide +kernel) rfl, by decide +kernel, by decide +kernel, by decide +kernel⟩
theorem inX12_isFull : Cond.instanceMethod yX12_isFull ∈ WT ∧ Cond.selects (yX12_isFull).cls yX12_isFull yX12_isFull ∈ WT := ⟨wt_mem 1700 (by decide +kernel) rfl, wt_mem 63 (by decide +kernel) rfl⟩
theorem okX12_countUnit : mOK yX12_countUnit cX12_countUnit 1 none 0 := ⟨wt_mem 122 (by decide +kernel) rfl, wt_mem 1705 (by decide +kernel) rfl, by decide +kernel, by decide +kernel, by decide +kernel⟩
theorem inX12_countUnit : Cond.instanceMethod yX12_countUnit ∈ WT ∧ Cond.selects (yX12_countUnit).cls yX12_countUnit yX12_countUnit ∈ WT := ⟨wt_mem 1704 (by decide +kernel) rfl, wt_mem 64 (by decide +kernel) rfl⟩
theorem okX12_openUp : mOK yX12_openUp cX12_openUp 2 none 1 := ⟨wt_mem 122 (by decide +kernel) rfl, wt_mem 1697 (by decide +kernel) rfl, by decide +kernel, by decide +kernel, by decide +kernel⟩
theorem inX12_openUp : Cond.instanceMethod yX12_openUp ∈ WT ∧ Cond.selects (yX12_openUp).cls yX12_openUp yX12_openUp ∈ WT := ⟨wt_mem 1696 (by decide +kernel) rfl, wt_mem 62 (by decide +kernel) rfl⟩
theorem okX12_unit : mOK yX12_unit cX12_unit 3 none 0 := ⟨wt_mem 122 (by decide +kernel) rfl, wt_mem 1686 (by decide +kernel) rfl, by decide +kernel, by decide +kernel, by decide +kernel⟩
theorem inX12_unit : Cond.instanceMethod yX12_unit ∈ WT ∧ Cond.selects (yX12_unit).cls yX12_unit yX12_unit ∈ WT := ⟨wt_mem 1685 (by decide +kernel) rfl, wt_mem 60 (by decide +kernel) rfl⟩
theorem okX12_sign : mOK yX12_sign cX12_sign 1 (some .int) 0 := ⟨wt_mem 122 (by decide +kernel) rfl, wt_mem 1717 (by decide +kernel) rfl, by decide +kernel, by decide +kernel, by decide +kernel⟩
theorem inX12_sign : Cond.instanceMethod yX12_sign ∈ WT ∧ Cond.selects (yX12_sign).cls yX12_sign yX12_sign ∈ WT := ⟨wt_mem 1716 (by decide +kernel) rfl, wt_mem 67 (by decide +kernel) rfl⟩
theorem okX12_hasBracket : mOK yX12_hasBracket cX12_hasBracket 3 (some .boolean) 0 := ⟨wt_mem 122 (by decide +kernel) rfl, wt_mem 1721 (by decide +kernel) rfl, by decide +kernel, by decide +kernel, by decide +kernel⟩
theorem inX12_hasBracket : Cond.instanceMethod yX12_hasBracket ∈ WT ∧ Cond.selects (yX12_hasBracket).cls yX12_hasBracket yX12_hasBracket ∈ WT := ⟨wt_mem 1720 (by decide +kernel) rfl, wt_mem 68 (by decide +kernel) rfl⟩
theorem okX12_formula : mOK yX12_formula cX12_formula 4 none 1 := ⟨wt_mem 122 (by decide +kernel) rfl, wt_mem 1682 (by decide +kernel) rfl, by decide +kernel, by decide +kernel, by decide +kernel⟩
theorem inX12_formula : Cond.instanceMethod yX12_formula ∈ WT ∧ Cond.selects (yX12_formula).cls yX12_formula yX12_formula ∈ WT := ⟨wt_mem 1681 (by decide +kernel) rfl, wt_mem 59 (by decide +kernel) rfl⟩
theorem okX12_truth : mOK yX12_truth cX12_truth 1 (some .int) 1 := ⟨wt_mem 122 (by decide +kernel) rfl, wt_mem 1771 (by decide +kernel) rfl, by decide +kernel, by decide +kernel, by decide +kernel⟩
theorem stX12_truth : Cond.static yX12_truth ∈ WT := wt_mem 1770 (by decide +kernel) rfl
theorem okX12_done : mOK yX12_done cX12_done 3 (some .int) 3 := ⟨wt_mem 122 (by decide +kernel) rfl, wt_mem 1774 (by decide +kernel) rfl, by decide +kernel, by decide +kernel, by decide +kernel⟩
theorem stX12_done : Cond.static yX12_done ∈ WT := wt_mem 1773 (by decide +kernel) rfl
theorem okX12_worked : mOK yX12_worked cX12_worked 7 (some .int) 4 := ⟨wt_mem 122 (by decide +kernel) rfl, wt_mem 1768 (by decide +kernel) rfl, by decide +kernel, by decide +kernel, by decide +kernel⟩
theorem inX12_worked : Cond.instanceMethod yX12_worked ∈ WT ∧ Cond.selects (yX12_worked).cls yX12_worked yX12_worked ∈ WT := ⟨wt_mem 1767 (by decide +kernel) rfl, wt_mem 77 (by decide +kernel) rfl⟩
theorem okX12_readPerson : mOK yX12_readPerson cX12_readPerson 2 none 0 := ⟨wt_mem 122 (by decide +kernel) rfl, wt_mem 1608 (by decide +kernel) rfl, by decide +kernel, by decide +kernel, by decide +kernel⟩
theorem inX12_readPerson : Cond.instanceMethod yX12_readPerson ∈ WT ∧ Cond.selects (yX12_readPerson).cls yX12_readPerson yX12_readPerson ∈ WT := ⟨wt_mem 1607 (by decide +kernel) rfl, wt_mem 45 (by decide +kernel) rfl⟩
theorem okX12_isMeetTold : mOK yX12_isMeetTold cX12_isMeetTold 5 (some .boolean) 2 := ⟨wt_mem 122 (by decide +kernel) rfl, wt_mem 1666 (by decide +kernel) rfl, by decide +kernel, by decide +kernel, by decide +kernel⟩
theorem inX12_isMeetTold : Cond.instanceMethod yX12_isMeetTold ∈ WT ∧ Cond.selects (yX12_isMeetTold).cls yX12_isMeetTold yX12_isMeetTold ∈ WT := ⟨wt_mem 1665 (by decide +kernel) rfl, wt_mem 55 (by decide +kernel) rfl⟩
theorem okX12_readMeet : mOK yX12_readMeet cX12_readMeet 3 none 0 := ⟨wt_mem 122 (by decide +kernel) rfl, wt_mem 1658 (by decide +kernel) rfl, by decide +kernel, by decide +kernel, by decide +kernel⟩
theorem inX12_readMeet : Cond.instanceMethod yX12_readMeet ∈ WT ∧ Cond.selects (yX12_readMeet).cls yX12_readMeet yX12_readMeet ∈ WT := ⟨wt_mem 1657 (by decide +kernel) rfl, wt_mem 53 (by decide +kernel) rfl⟩
theorem okX12_isNoiseTold : mOK yX12_isNoiseTold cX12_isNoiseTold 5 (some .boolean) 2 := ⟨wt_mem 122 (by decide +kernel) rfl, wt_mem 1674 (by decide +kernel) rfl, by decide +kernel, by decide +kernel, by decide +kernel⟩
theorem inX12_isNoiseTold : Cond.instanceMethod yX12_isNoiseTold ∈ WT ∧ Cond.selects (yX12_isNoiseTold).cls yX12_isNoiseTold yX12_isNoiseTold ∈ WT := ⟨wt_mem 1673 (by decide +kernel) rfl, wt_mem 57 (by decide +kernel) rfl⟩
theorem okX12_readNoise : mOK yX12_readNoise cX12_readNoise 2 none 0 := ⟨wt_mem 122 (by decide +kernel) rfl, wt_mem 1670 (by decide +kernel) rfl, by decide +kernel, by decide +kernel, by decide +kernel⟩
theorem inX12_readNoise : Cond.instanceMethod yX12_readNoise ∈ WT ∧ Cond.selects (yX12_readNoise).cls yX12_readNoise yX12_readNoise ∈ WT := ⟨wt_mem 1669 (by decide +kernel) rfl, wt_mem 56 (by decide +kernel) rfl⟩
theorem okX12_readWakeful : mOK yX12_readWakeful cX12_readWakeful 3 none 0 := ⟨wt_mem 122 (by decide +kernel) rfl, wt_mem 1678 (by decide +kernel) rfl, by decide +kernel, by decide +kernel, by decide +kernel⟩
theorem inX12_readWakeful : Cond.instanceMethod yX12_readWakeful ∈ WT ∧ Cond.selects (yX12_readWakeful).cls yX12_readWakeful yX12_readWakeful ∈ WT := ⟨wt_mem 1677 (by decide +kernel) rfl, wt_mem 58 (by decide +kernel) rfl⟩
theorem okX12_readLine : mOK yX12_readLine cX12_readLine 1 none 0 := ⟨wt_mem 122 (by decide +kernel) rfl, wt_mem 1599 (by decide +kernel) rfl, by decide +kernel, by decide +kernel, by decide +kernel⟩
theorem inX12_readLine : Cond.instanceMethod yX12_readLine ∈ WT ∧ Cond.selects (yX12_readLine).cls yX12_readLine yX12_readLine ∈ WT := ⟨wt_mem 1598 (by decide +kernel) rfl, wt_mem 43 (by decide +kernel) rfl⟩
theorem okX12_readAll : mOK yX12_readAll cX12_readAll 2 none 0 := ⟨wt_mem 122 (by decide +kernel) rfl, wt_mem 1578 (by decide +kernel) rfl, by decide +kernel, by decide +kernel, by decide +kernel⟩
theorem inX12_readAll : Cond.instanceMethod yX12_readAll ∈ WT ∧ Cond.selects (yX12_readAll).cls yX12_readAll yX12_readAll ∈ WT := ⟨wt_mem 1577 (by decide +kernel) rfl, wt_mem 40 (by decide +kernel) rfl⟩
theorem okX12_town : mOK yX12_town cX12_town 3 (some .int) 0 := ⟨wt_mem 122 (by decide +kernel) rfl, wt_mem 1574 (by decide +kernel) rfl, by decide +kernel, by decide +kernel, by decide +kernel⟩
theorem inX12_town : Cond.instanceMethod yX12_town ∈ WT ∧ Cond.selects (yX12_town).cls yX12_town yX12_town ∈ WT := ⟨wt_mem 1572 (by decide +kernel) rfl, wt_mem 1573 (by decide +kernel) rfl⟩
theorem okX12_fault : mOK yX12_fault cX12_fault 2 (some .int) 1 := ⟨wt_mem 122 (by decide +kernel) rfl, wt_mem 1733 (by decide +kernel) rfl, by decide +kernel, by decide +kernel, by decide +kernel⟩
theorem inX12_fault : Cond.instanceMethod yX12_fault ∈ WT ∧ Cond.selects (yX12_fault).cls yX12_fault yX12_fault ∈ WT := ⟨wt_mem 1731 (by decide +kernel) rfl, wt_mem 1732 (by decide +kernel) rfl⟩
theorem okX12_isIn : mOK yX12_isIn cX12_isIn 3 (some .boolean) 3 := ⟨wt_mem 122 (by decide +kernel) rfl, wt_mem 1744 (by decide +kernel) rfl, by decide +kernel, by decide +kernel, by decide +kernel⟩
theorem stX12_isIn : Cond.static yX12_isIn ∈ WT := wt_mem 1743 (by decide +kernel) rfl
theorem okX12_isPerson : mOK yX12_isPerson cX12_isPerson 2 (some .boolean) 1 := ⟨wt_mem 122 (by decide +kernel) rfl, wt_mem 1741 (by decide +kernel) rfl, by decide +kernel, by decide +kernel, by decide +kernel⟩
theorem inX12_isPerson : Cond.instanceMethod yX12_isPerson ∈ WT ∧ Cond.selects (yX12_isPerson).cls yX12_isPerson yX12_isPerson ∈ WT := ⟨wt_mem 1740 (by decide +kernel) rfl, wt_mem 71 (by decide +kernel) rfl⟩
theorem okX12_isMeet : mOK yX12_isMeet cX12_isMeet 2 (some .boolean) 1 := ⟨wt_mem 122 (by decide +kernel) rfl, wt_mem 1804 (by decide +kernel) rfl, by decide +kernel, by decide +kernel, by decide +kernel⟩
theorem inX12_isMeet : Cond.instanceMethod yX12_isMeet ∈ WT ∧ Cond.selects (yX12_isMeet).cls yX12_isMeet yX12_isMeet ∈ WT := ⟨wt_mem 1803 (by decide +kernel) rfl, wt_mem 82 (by decide +kernel) rfl⟩
theorem okX12_isDate : mOK yX12_isDate cX12_isDate 1 (some .boolean) 1 := ⟨wt_mem 122 (by decide +kernel) rfl, wt_mem 1822 (by decide +kernel) rfl, by decide +kernel, by decide +kernel, by decide +kernel⟩
theorem stX12_isDate : Cond.static yX12_isDate ∈ WT := wt_mem 1821 (by decide +kernel) rfl
theorem okX12_load : mOK yX12_load cX12_load 2 none 0 := ⟨wt_mem 122 (by decide +kernel) rfl, wt_mem 1752 (by decide +kernel) rfl, by decide +kernel, by decide +kernel, by decide +kernel⟩
theorem inX12_load : Cond.instanceMethod yX12_load ∈ WT ∧ Cond.selects (yX12_load).cls yX12_load yX12_load ∈ WT := ⟨wt_mem 1751 (by decide +kernel) rfl, wt_mem 73 (by decide +kernel) rfl⟩
theorem okX12_askOf : mOK yX12_askOf cX12_askOf 5 none 4 := ⟨wt_mem 122 (by decide +kernel) rfl, wt_mem 1764 (by decide +kernel) rfl, by decide +kernel, by decide +kernel, by decide +kernel⟩
theorem inX12_askOf : Cond.instanceMethod yX12_askOf ∈ WT ∧ Cond.selects (yX12_askOf).cls yX12_askOf yX12_askOf ∈ WT := ⟨wt_mem 1763 (by decide +kernel) rfl, wt_mem 76 (by decide +kernel) rfl⟩
theorem okX12_dawnOf : mOK yX12_dawnOf cX12_dawnOf 2 (some .int) 1 := ⟨wt_mem 122 (by decide +kernel) rfl, wt_mem 1760 (by decide +kernel) rfl, by decide +kernel, by decide +kernel, by decide +kernel⟩
theorem inX12_dawnOf : Cond.instanceMethod yX12_dawnOf ∈ WT ∧ Cond.selects (yX12_dawnOf).cls yX12_dawnOf yX12_dawnOf ∈ WT := ⟨wt_mem 1759 (by decide +kernel) rfl, wt_mem 75 (by decide +kernel) rfl⟩
theorem okX12_duskOf : mOK yX12_duskOf cX12_duskOf 2 (some .int) 1 := ⟨wt_mem 122 (by decide +kernel) rfl, wt_mem 1778 (by decide +kernel) rfl, by decide +kernel, by decide +kernel, by decide +kernel⟩
theorem inX12_duskOf : Cond.instanceMethod yX12_duskOf ∈ WT ∧ Cond.selects (yX12_duskOf).cls yX12_duskOf yX12_duskOf ∈ WT := ⟨wt_mem 1777 (by decide +kernel) rfl, wt_mem 78 (by decide +kernel) rfl⟩
theorem okX12_apart : mOK yX12_apart cX12_apart 2 (some .int) 2 := ⟨wt_mem 122 (by decide +kernel) rfl, wt_mem 1784 (by decide +kernel) rfl, by decide +kernel, by decide +kernel, by decide +kernel⟩
theorem stX12_apart : Cond.static yX12_apart ∈ WT := wt_mem 1783 (by decide +kernel) rfl
theorem okX12_isHinge : mOK yX12_isHinge cX12_isHinge 3 (some .boolean) 2 := ⟨wt_mem 122 (by decide +kernel) rfl, wt_mem 1781 (by decide +kernel) rfl, by decide +kernel, by decide +kernel, by decide +kernel⟩
theorem stX12_isHinge : Cond.static yX12_isHinge ∈ WT := wt_mem 1780 (by decide +kernel) rfl
theorem okX12_layDate : mOK yX12_layDate cX12_layDate 7 none 1 := ⟨wt_mem 122 (by decide +kernel) rfl, wt_mem 1756 (by decide +kernel) rfl, by decide +kernel, by decide +kernel, by decide +kernel⟩
theorem inX12_layDate : Cond.instanceMethod yX12_layDate ∈ WT ∧ Cond.selects (yX12_layDate).cls yX12_layDate yX12_layDate ∈ WT := ⟨wt_mem 1755 (by decide +kernel) rfl, wt_mem 74 (by decide +kernel) rfl⟩
theorem okX12_loadDate : mOK yX12_loadDate cX12_loadDate 2 none 1 := ⟨wt_mem 122 (by decide +kernel) rfl, wt_mem 1748 (by decide +kernel) rfl, by decide +kernel, by decide +kernel, by decide +kernel⟩
theorem inX12_loadDate : Cond.instanceMethod yX12_loadDate ∈ WT ∧ Cond.selects (yX12_loadDate).cls yX12_loadDate yX12_loadDate ∈ WT := ⟨wt_mem 1747 (by decide +kernel) rfl, wt_mem 72 (by decide +kernel) rfl⟩
theorem okX12_isAwake : mOK yX12_isAwake cX12_isAwake 3 (some .boolean) 2 := ⟨wt_mem 122 (by decide +kernel) rfl, wt_mem 1788 (by decide +kernel) rfl, by decide +kernel, by decide +kernel, by decide +kernel⟩
theorem inX12_isAwake : Cond.instanceMethod yX12_isAwake ∈ WT ∧ Cond.selects (yX12_isAwake).cls yX12_isAwake yX12_isAwake ∈ WT := ⟨wt_mem 1787 (by decide +kernel) rfl, wt_mem 79 (by decide +kernel) rfl⟩
theorem okX12_harmBy : mOK yX12_harmBy cX12_harmBy 4 (some .int) 2 := ⟨wt_mem 122 (by decide +kernel) rfl, wt_mem 1796 (by decide +kernel) rfl, by decide +kernel, by decide +kernel, by decide +kernel⟩
theorem inX12_harmBy : Cond.instanceMethod yX12_harmBy ∈ WT ∧ Cond.selects (yX12_harmBy).cls yX12_harmBy yX12_harmBy ∈ WT := ⟨wt_mem 1795 (by decide +kernel) rfl, wt_mem 81 (by decide +kernel) rfl⟩
theorem okX12_harmAt : mOK yX12_harmAt cX12_harmAt 5 (some .int) 2 := ⟨wt_mem 122 (by decide +kernel) rfl, wt_mem 1792 (by decide +kernel) rfl, by decide +kernel, by decide +kernel, by decide +kernel⟩
theorem inX12_harmAt : Cond.instanceMethod yX12_harmAt ∈ WT ∧ Cond.selects (yX12_harmAt).cls yX12_harmAt yX12_harmAt ∈ WT := ⟨wt_mem 1791 (by decide +kernel) rfl, wt_mem 80 (by decide +kernel) rfl⟩
theorem okX12_harmOf : mOK yX12_harmOf cX12_harmOf 4 (some .int) 1 := ⟨wt_mem 122 (by decide +kernel) rfl, wt_mem 1898 (by decide +kernel) rfl, by decide +kernel, by decide +kernel, by decide +kernel⟩
theorem inX12_harmOf : Cond.instanceMethod yX12_harmOf ∈ WT ∧ Cond.selects (yX12_harmOf).cls yX12_harmOf yX12_harmOf ∈ WT := ⟨wt_mem 1897 (by decide +kernel) rfl, wt_mem 91 (by decide +kernel) rfl⟩
theorem okX12_allHarm : mOK yX12_allHarm cX12_allHarm 3 (some .int) 0 := ⟨wt_mem 122 (by decide +kernel) rfl, wt_mem 1911 (by decide +kernel) rfl, by decide +kernel, by decide +kernel, by decide +kernel⟩
theorem inX12_allHarm : Cond.instanceMethod yX12_allHarm ∈ WT ∧ Cond.selects (yX12_allHarm).cls yX12_allHarm yX12_allHarm ∈ WT := ⟨wt_mem 1910 (by decide +kernel) rfl, wt_mem 93 (by decide +kernel) rfl⟩
theorem okX12_members : mOK yX12_members cX12_members 3 (some .int) 1 := ⟨wt_mem 122 (by decide +kernel) rfl, wt_mem 1815 (by decide +kernel) rfl, by decide +kernel, by decide +kernel, by decide +kernel⟩
theorem stX12_members : Cond.static yX12_members ∈ WT := wt_mem 1814 (by decide +kernel) rfl
theorem okX12_commonOf : mOK yX12_commonOf cX12_commonOf 3 (some .int) 2 := ⟨wt_mem 122 (by decide +kernel) rfl, wt_mem 1812 (by decide +kernel) rfl, by decide +kernel, by decide +kernel, by decide +kernel⟩
theorem inX12_commonOf : Cond.instanceMethod yX12_commonOf ∈ WT ∧ Cond.selects (yX12_commonOf).cls yX12_commonOf yX12_commonOf ∈ WT := ⟨wt_mem 1811 (by decide +kernel) rfl, wt_mem 84 (by decide +kernel) rfl⟩
theorem okX12_canMeet : mOK yX12_canMeet cX12_canMeet 2 (some .boolean) 1 := ⟨wt_mem 122 (by decide +kernel) rfl, wt_mem 1808 (by decide +kernel) rfl, by decide +kernel, by decide +kernel, by decide +kernel⟩
theorem inX12_canMeet : Cond.instanceMethod yX12_canMeet ∈ WT ∧ Cond.selects (yX12_canMeet).cls yX12_canMeet yX12_canMeet ∈ WT := ⟨wt_mem 1807 (by decide +kernel) rfl, wt_mem 83 (by decide +kernel) rfl⟩
theorem okX12_canSet : mOK yX12_canSet cX12_canSet 3 (some .int) 0 := ⟨wt_mem 122 (by decide +kernel) rfl, wt_mem 1878 (by decide +kernel) rfl, by decide +kernel, by decide +kernel, by decide +kernel⟩
theorem inX12_canSet : Cond.instanceMethod yX12_canSet ∈ WT ∧ Cond.selects (yX12_canSet).cls yX12_canSet yX12_canSet ∈ WT := ⟨wt_mem 1877 (by decide +kernel) rfl, wt_mem 89 (by decide +kernel) rfl⟩
theorem okX12_awakeSet : mOK yX12_awakeSet cX12_awakeSet 4 (some .int) 1 := ⟨wt_mem 122 (by decide +kernel) rfl, wt_mem 1830 (by decide +kernel) rfl, by decide +kernel, by decide +kernel, by decide +kernel⟩
theorem inX12_awakeSet : Cond.instanceMethod yX12_awakeSet ∈ WT ∧ Cond.selects (yX12_awakeSet).cls yX12_awakeSet yX12_awakeSet ∈ WT := ⟨wt_mem 1829 (by decide +kernel) rfl, wt_mem 85 (by decide +kernel) rfl⟩
theorem okX12_person : mOK yX12_person cX12_person 3 (some .int) 2 := ⟨wt_mem 122 (by decide +kernel) rfl, wt_mem 1737 (by decide +kernel) rfl, by decide +kernel, by decide +kernel, by decide +kernel⟩
theorem inX12_person : Cond.instanceMethod yX12_person ∈ WT ∧ Cond.selects (yX12_person).cls yX12_person yX12_person ∈ WT := ⟨wt_mem 1735 (by decide +kernel) rfl, wt_mem 1736 (by decide +kernel) rfl⟩
theorem okX12_meet : mOK yX12_meet cX12_meet 3 (some .int) 2 := ⟨wt_mem 122 (by decide +kernel) rfl, wt_mem 1800 (by decide +kernel) rfl, by decide +kernel, by decide +kernel, by decide +kernel⟩
theorem inX12_meet : Cond.instanceMethod yX12_meet ∈ WT ∧ Cond.selects (yX12_meet).cls yX12_meet yX12_meet ∈ WT := ⟨wt_mem 1798 (by decide +kernel) rfl, wt_mem 1799 (by decide +kernel) rfl⟩
theorem okX12_light : mOK yX12_light cX12_light 3 (some .int) 2 := ⟨wt_mem 122 (by decide +kernel) rfl, wt_mem 1819 (by decide +kernel) rfl, by decide +kernel, by decide +kernel, by decide +kernel⟩
theorem inX12_light : Cond.instanceMethod yX12_light ∈ WT ∧ Cond.selects (yX12_light).cls yX12_light yX12_light ∈ WT := ⟨wt_mem 1817 (by decide +kernel) rfl, wt_mem 1818 (by decide +kernel) rfl⟩
theorem okX12_awake : mOK yX12_awake cX12_awake 3 (some .int) 2 := ⟨wt_mem 122 (by decide +kernel) rfl, wt_mem 1826 (by decide +kernel) rfl, by decide +kernel, by decide +kernel, by decide +kernel⟩
theorem inX12_awake : Cond.instanceMethod yX12_awake ∈ WT ∧ Cond.selects (yX12_awake).cls yX12_awake yX12_awake ∈ WT := ⟨wt_mem 1824 (by decide +kernel) rfl, wt_mem 1825 (by decide +kernel) rfl⟩
theorem okX12_noise : mOK yX12_noise cX12_noise 5 (some .int) 2 := ⟨wt_mem 122 (by decide +kernel) rfl, wt_mem 1834 (by decide +kernel) rfl, by decide +kernel, by decide +kernel, by decide +kernel⟩
theorem inX12_noise : Cond.instanceMethod yX12_noise ∈ WT ∧ Cond.selects (yX12_noise).cls yX12_noise yX12_noise ∈ WT := ⟨wt_mem 1832 (by decide +kernel) rfl, wt_mem 1833 (by decide +kernel) rfl⟩
theorem okX12_act : mOK yX12_act cX12_act 2 none 0 := ⟨wt_mem 122 (by decide +kernel) rfl, wt_mem 1842 (by decide +kernel) rfl, by decide +kernel, by decide +kernel, by decide +kernel⟩
theorem inX12_act : Cond.instanceMethod yX12_act ∈ WT ∧ Cond.selects (yX12_act).cls yX12_act yX12_act ∈ WT := ⟨wt_mem 1841 (by decide +kernel) rfl, wt_mem 86 (by decide +kernel) rfl⟩
theorem okX12_exchange : mOK yX12_exchange cX12_exchange 4 none 1 := ⟨wt_mem 122 (by decide +kernel) rfl, wt_mem 1862 (by decide +kernel) rfl, by decide +kernel, by decide +kernel, by decide +kernel⟩
theorem inX12_exchange : Cond.instanceMethod yX12_exchange ∈ WT ∧ Cond.selects (yX12_exchange).cls yX12_exchange yX12_exchange ∈ WT := ⟨wt_mem 1861 (by decide +kernel) rfl, wt_mem 88 (by decide +kernel) rfl⟩
theorem okX12_go : mOK yX12_go cX12_go 4 (some .int) 2 := ⟨wt_mem 122 (by decide +kernel) rfl, wt_mem 1838 (by decide +kernel) rfl, by decide +kernel, by decide +kernel, by decide +kernel⟩
theorem inX12_go : Cond.instanceMethod yX12_go ∈ WT ∧ Cond.selects (yX12_go).cls yX12_go yX12_go ∈ WT := ⟨wt_mem 1836 (by decide +kernel) rfl, wt_mem 1837 (by decide +kernel) rfl⟩
theorem okX12_hush : mOK yX12_hush cX12_hush 2 (some .int) 1 := ⟨wt_mem 122 (by decide +kernel) rfl, wt_mem 1846 (by decide +kernel) rfl, by decide +kernel, by decide +kernel, by decide +kernel⟩
theorem inX12_hush : Cond.instanceMethod yX12_hush ∈ WT ∧ Cond.selects (yX12_hush).cls yX12_hush yX12_hush ∈ WT := ⟨wt_mem 1844 (by decide +kernel) rfl, wt_mem 1845 (by decide +kernel) rfl⟩
theorem okX12_goDate : mOK yX12_goDate cX12_goDate 2 none 0 := ⟨wt_mem 122 (by decide +kernel) rfl, wt_mem 1854 (by decide +kernel) rfl, by decide +kernel, by decide +kernel, by decide +kernel⟩
theorem inX12_goDate : Cond.instanceMethod yX12_goDate ∈ WT ∧ Cond.selects (yX12_goDate).cls yX12_goDate yX12_goDate ∈ WT := ⟨wt_mem 1853 (by decide +kernel) rfl, wt_mem 87 (by decide +kernel) rfl⟩
theorem okX12_hour : mOK yX12_hour cX12_hour 4 (some .int) 0 := ⟨wt_mem 122 (by decide +kernel) rfl, wt_mem 1850 (by decide +kernel) rfl, by decide +kernel, by decide +kernel, by decide +kernel⟩
theorem inX12_hour : Cond.instanceMethod yX12_hour ∈ WT ∧ Cond.selects (yX12_hour).cls yX12_hour yX12_hour ∈ WT := ⟨wt_mem 1848 (by decide +kernel) rfl, wt_mem 1849 (by decide +kernel) rfl⟩
theorem okX12_undo : mOK yX12_undo cX12_undo 1 (some .boolean) 0 := ⟨wt_mem 122 (by decide +kernel) rfl, wt_mem 1858 (by decide +kernel) rfl, by decide +kernel, by decide +kernel, by decide +kernel⟩
theorem inX12_undo : Cond.instanceMethod yX12_undo ∈ WT ∧ Cond.selects (yX12_undo).cls yX12_undo yX12_undo ∈ WT := ⟨wt_mem 1856 (by decide +kernel) rfl, wt_mem 1857 (by decide +kernel) rfl⟩
theorem okX12_redo : mOK yX12_redo cX12_redo 1 (some .boolean) 0 := ⟨wt_mem 122 (by decide +kernel) rfl, wt_mem 1866 (by decide +kernel) rfl, by decide +kernel, by decide +kernel, by decide +kernel⟩
theorem inX12_redo : Cond.instanceMethod yX12_redo ∈ WT ∧ Cond.selects (yX12_redo).cls yX12_redo yX12_redo ∈ WT := ⟨wt_mem 1864 (by decide +kernel) rfl, wt_mem 1865 (by decide +kernel) rfl⟩
theorem okX12_common : mOK yX12_common cX12_common 4 (some .int) 3 := ⟨wt_mem 122 (by decide +kernel) rfl, wt_mem 1870 (by decide +kernel) rfl, by decide +kernel, by decide +kernel, by decide +kernel⟩
theorem inX12_common : Cond.instanceMethod yX12_common ∈ WT ∧ Cond.selects (yX12_common).cls yX12_common yX12_common ∈ WT := ⟨wt_mem 1868 (by decide +kernel) rfl, wt_mem 1869 (by decide +kernel) rfl⟩
theorem okX12_can : mOK yX12_can cX12_can 2 (some .int) 1 := ⟨wt_mem 122 (by decide +kernel) rfl, wt_mem 1874 (by decide +kernel) rfl, by decide +kernel, by decide +kernel, by decide +kernel⟩
theorem inX12_can : Cond.instanceMethod yX12_can ∈ WT ∧ Cond.selects (yX12_can).cls yX12_can yX12_can ∈ WT := ⟨wt_mem 1872 (by decide +kernel) rfl, wt_mem 1873 (by decide +kernel) rfl⟩
theorem okX12_canOn : mOK yX12_canOn cX12_canOn 3 (some .boolean) 2 := ⟨wt_mem 122 (by decide +kernel) rfl, wt_mem 1886 (by decide +kernel) rfl, by decide +kernel, by decide +kernel, by decide +kernel⟩
theorem inX12_canOn : Cond.instanceMethod yX12_canOn ∈ WT ∧ Cond.selects (yX12_canOn).cls yX12_canOn yX12_canOn ∈ WT := ⟨wt_mem 1885 (by decide +kernel) rfl, wt_mem 90 (by decide +kernel) rfl⟩
theorem okX12_never : mOK yX12_never cX12_never 4 (some .int) 1 := ⟨wt_mem 122 (by decide +kernel) rfl, wt_mem 1882 (by decide +kernel) rfl, by decide +kernel, by decide +kernel, by decide +kernel⟩
theorem inX12_never : Cond.instanceMethod yX12_never ∈ WT ∧ Cond.selects (yX12_never).cls yX12_never yX12_never ∈ WT := ⟨wt_mem 1880 (by decide +kernel) rfl, wt_mem 1881 (by decide +kernel) rfl⟩
theorem okX12_dates : mOK yX12_dates cX12_dates 4 (some .int) 1 := ⟨wt_mem 122 (by decide +kernel) rfl, wt_mem 1890 (by decide +kernel) rfl, by decide +kernel, by decide +kernel, by decide +kernel⟩
theorem inX12_dates : Cond.instanceMethod yX12_dates ∈ WT ∧ Cond.selects (yX12_dates).cls yX12_dates yX12_dates ∈ WT := ⟨wt_mem 1888 (by decide +kernel) rfl, wt_mem 1889 (by decide +kernel) rfl⟩
theorem okX12_harmed : mOK yX12_harmed cX12_harmed 3 (some .int) 2 := ⟨wt_mem 122 (by decide +kernel) rfl, wt_mem 1894 (by decide +kernel) rfl, by decide +kernel, by decide +kernel, by decide +kernel⟩
theorem inX12_harmed : Cond.instanceMethod yX12_harmed ∈ WT ∧ Cond.selects (yX12_harmed).cls yX12_harmed yX12_harmed ∈ WT := ⟨wt_mem 1892 (by decide +kernel) rfl, wt_mem 1893 (by decide +kernel) rfl⟩
theorem okX12_blissHere : mOK yX12_blissHere cX12_blissHere 3 (some .int) 0 := ⟨wt_mem 122 (by decide +kernel) rfl, wt_mem 1907 (by decide +kernel) rfl, by decide +kernel, by decide +kernel, by decide +kernel⟩
theorem inX12_blissHere : Cond.instanceMethod yX12_blissHere ∈ WT ∧ Cond.selects (yX12_blissHere).cls yX12_blissHere yX12_blissHere ∈ WT := ⟨wt_mem 1906 (by decide +kernel) rfl, wt_mem 92 (by decide +kernel) rfl⟩
theorem okX12_bliss : mOK yX12_bliss cX12_bliss 2 (some .int) 1 := ⟨wt_mem 122 (by decide +kernel) rfl, wt_mem 1902 (by decide +kernel) rfl, by decide +kernel, by decide +kernel, by decide +kernel⟩
theorem inX12_bliss : Cond.instanceMethod yX12_bliss ∈ WT ∧ Cond.selects (yX12_bliss).cls yX12_bliss yX12_bliss ∈ WT := ⟨wt_mem 1900 (by decide +kernel) rfl, wt_mem 1901 (by decide +kernel) rfl⟩
theorem okX12_laySides : mOK yX12_laySides cX12_laySides 5 (some .int) 1 := ⟨wt_mem 122 (by decide +kernel) rfl, wt_mem 1919 (by decide +kernel) rfl, by decide +kernel, by decide +kernel, by decide +kernel⟩
theorem inX12_laySides : Cond.instanceMethod yX12_laySides ∈ WT ∧ Cond.selects (yX12_laySides).cls yX12_laySides yX12_laySides ∈ WT := ⟨wt_mem 1918 (by decide +kernel) rfl, wt_mem 94 (by decide +kernel) rfl⟩
theorem okX12_putSides : mOK yX12_putSides cX12_putSides 2 none 0 := ⟨wt_mem 122 (by decide +kernel) rfl, wt_mem 1923 (by decide +kernel) rfl, by decide +kernel, by decide +kernel, by decide +kernel⟩
theorem inX12_putSides : Cond.instanceMethod yX12_putSides ∈ WT ∧ Cond.selects (yX12_putSides).cls yX12_putSides yX12_putSides ∈ WT := ⟨wt_mem 1922 (by decide +kernel) rfl, wt_mem 95 (by decide +kernel) rfl⟩
theorem okX12_cut : mOK yX12_cut cX12_cut 8 (some .int) 0 := ⟨wt_mem 122 (by decide +kernel) rfl, wt_mem 1915 (by decide +kernel) rfl, by decide +kernel, by decide +kernel, by decide +kernel⟩
theorem inX12_cut : Cond.instanceMethod yX12_cut ∈ WT ∧ Cond.selects (yX12_cut).cls yX12_cut yX12_cut ∈ WT := ⟨wt_mem 1913 (by decide +kernel) rfl, wt_mem 1914 (by decide +kernel) rfl⟩
theorem okX12_joyHere : mOK yX12_joyHere cX12_joyHere 4 (some .int) 1 := ⟨wt_mem 122 (by decide +kernel) rfl, wt_mem 1931 (by decide +kernel) rfl, by decide +kernel, by decide +kernel, by decide +kernel⟩
theorem inX12_joyHere : Cond.instanceMethod yX12_joyHere ∈ WT ∧ Cond.selects (yX12_joyHere).cls yX12_joyHere yX12_joyHere ∈ WT := ⟨wt_mem 1930 (by decide +kernel) rfl, wt_mem 96 (by decide +kernel) rfl⟩
theorem okX12_joy : mOK yX12_joy cX12_joy 3 (some .int) 2 := ⟨wt_mem 122 (by decide +kernel) rfl, wt_mem 1927 (by decide +kernel) rfl, by decide +kernel, by decide +kernel, by decide +kernel⟩
theorem inX12_joy : Cond.instanceMethod yX12_joy ∈ WT ∧ Cond.selects (yX12_joy).cls yX12_joy yX12_joy ∈ WT := ⟨wt_mem 1925 (by decide +kernel) rfl, wt_mem 1926 (by decide +kernel) rfl⟩
theorem okX12_lonely : mOK yX12_lonely cX12_lonely 4 (some .int) 1 := ⟨wt_mem 122 (by decide +kernel) rfl, wt_mem 1935 (by decide +kernel) rfl, by decide +kernel, by decide +kernel, by decide +kernel⟩
theorem inX12_lonely : Cond.instanceMethod yX12_lonely ∈ WT ∧ Cond.selects (yX12_lonely).cls yX12_lonely yX12_lonely ∈ WT := ⟨wt_mem 1933 (by decide +kernel) rfl, wt_mem 1934 (by decide +kernel) rfl⟩
theorem okX12_hinges : mOK yX12_hinges cX12_hinges 4 (some .int) 1 := ⟨wt_mem 122 (by decide +kernel) rfl, wt_mem 1939 (by decide +kernel) rfl, by decide +kernel, by decide +kernel, by decide +kernel⟩
theorem inX12_hinges : Cond.instanceMethod yX12_hinges ∈ WT ∧ Cond.selects (yX12_hinges).cls yX12_hinges yX12_hinges ∈ WT := ⟨wt_mem 1937 (by decide +kernel) rfl, wt_mem 1938 (by decide +kernel) rfl⟩
theorem okX12_loudest : mOK yX12_loudest cX12_loudest 8 (some .int) 2 := ⟨wt_mem 122 (by decide +kernel) rfl, wt_mem 1944 (by decide +kernel) rfl, by decide +kernel, by decide +kernel, by decide +kernel⟩
theorem inX12_loudest : Cond.instanceMethod yX12_loudest ∈ WT ∧ Cond.selects (yX12_loudest).cls yX12_loudest yX12_loudest ∈ WT := ⟨wt_mem 1942 (by decide +kernel) rfl, wt_mem 1943 (by decide +kernel) rfl⟩
theorem okX12_bestSide : mOK yX12_bestSide cX12_bestSide 6 (some .int) 1 := ⟨wt_mem 122 (by decide +kernel) rfl, wt_mem 1952 (by decide +kernel) rfl, by decide +kernel, by decide +kernel, by decide +kernel⟩
theorem inX12_bestSide : Cond.instanceMethod yX12_bestSide ∈ WT ∧ Cond.selects (yX12_bestSide).cls yX12_bestSide yX12_bestSide ∈ WT := ⟨wt_mem 1951 (by decide +kernel) rfl, wt_mem 97 (by decide +kernel) rfl⟩
theorem okX12_rest : mOK yX12_rest cX12_rest 5 (some .int) 0 := ⟨wt_mem 122 (by decide +kernel) rfl, wt_mem 1948 (by decide +kernel) rfl, by decide +kernel, by decide +kernel, by decide +kernel⟩
theorem inX12_rest : Cond.instanceMethod yX12_rest ∈ WT ∧ Cond.selects (yX12_rest).cls yX12_rest yX12_rest ∈ WT := ⟨wt_mem 1946 (by decide +kernel) rfl, wt_mem 1947 (by decide +kernel) rfl⟩
theorem okX12_areServed : mOK yX12_areServed cX12_areServed 4 (some .boolean) 1 := ⟨wt_mem 122 (by decide +kernel) rfl, wt_mem 1960 (by decide +kernel) rfl, by decide +kernel, by decide +kernel, by decide +kernel⟩
theorem inX12_areServed : Cond.instanceMethod yX12_areServed ∈ WT ∧ Cond.selects (yX12_areServed).cls yX12_areServed yX12_areServed ∈ WT := ⟨wt_mem 1959 (by decide +kernel) rfl, wt_mem 98 (by decide +kernel) rfl⟩
theorem okX12_shop : mOK yX12_shop cX12_shop 4 (some .int) 1 := ⟨wt_mem 122 (by decide +kernel) rfl, wt_mem 1956 (by decide +kernel) rfl, by decide +kernel, by decide +kernel, by decide +kernel⟩
theorem inX12_shop : Cond.instanceMethod yX12_shop ∈ WT ∧ Cond.selects (yX12_shop).cls yX12_shop yX12_shop ∈ WT := ⟨wt_mem 1954 (by decide +kernel) rfl, wt_mem 1955 (by decide +kernel) rfl⟩
theorem okX12_haveMeet : mOK yX12_haveMeet cX12_haveMeet 5 (some .boolean) 2 := ⟨wt_mem 122 (by decide +kernel) rfl, wt_mem 1976 (by decide +kernel) rfl, by decide +kernel, by decide +kernel, by decide +kernel⟩
theorem inX12_haveMeet : Cond.instanceMethod yX12_haveMeet ∈ WT ∧ Cond.selects (yX12_haveMeet).cls yX12_haveMeet yX12_haveMeet ∈ WT := ⟨wt_mem 1975 (by decide +kernel) rfl, wt_mem 101 (by decide +kernel) rfl⟩
theorem okX12_handedOn : mOK yX12_handedOn cX12_handedOn 7 (some .int) 2 := ⟨wt_mem 122 (by decide +kernel) rfl, wt_mem 1972 (by decide +kernel) rfl, by decide +kernel, by decide +kernel, by decide +kernel⟩
theorem inX12_handedOn : Cond.instanceMethod yX12_handedOn ∈ WT ∧ Cond.selects (yX12_handedOn).cls yX12_handedOn yX12_handedOn ∈ WT := ⟨wt_mem 1971 (by decide +kernel) rfl, wt_mem 100 (by decide +kernel) rfl⟩
theorem okX12_goLetters : mOK yX12_goLetters cX12_goLetters 3 (some .int) 1 := ⟨wt_mem 122 (by decide +kernel) rfl, wt_mem 1968 (by decide +kernel) rfl, by decide +kernel, by decide +kernel, by decide +kernel⟩
theorem inX12_goLetters : Cond.instanceMethod yX12_goLetters ∈ WT ∧ Cond.selects (yX12_goLetters).cls yX12_goLetters yX12_goLetters ∈ WT := ⟨wt_mem 1967 (by decide +kernel) rfl, wt_mem 99 (by decide +kernel) rfl⟩
theorem okX12_post : mOK yX12_post cX12_post 5 (some .int) 2 := ⟨wt_mem 122 (by decide +kernel) rfl, wt_mem 1964 (by decide +kernel) rfl, by decide +kernel, by decide +kernel, by decide +kernel⟩
theorem inX12_post : Cond.instanceMethod yX12_post ∈ WT ∧ Cond.selects (yX12_post).cls yX12_post yX12_post ∈ WT := ⟨wt_mem 1962 (by decide +kernel) rfl, wt_mem 1963 (by decide +kernel) rfl⟩
theorem okX12_spread : mOK yX12_spread cX12_spread 5 (some .int) 2 := ⟨wt_mem 122 (by decide +kernel) rfl, wt_mem 1980 (by decide +kernel) rfl, by decide +kernel, by decide +kernel, by decide +kernel⟩
theorem inX12_spread : Cond.instanceMethod yX12_spread ∈ WT ∧ Cond.selects (yX12_spread).cls yX12_spread yX12_spread ∈ WT := ⟨wt_mem 1978 (by decide +kernel) rfl, wt_mem 1979 (by decide +kernel) rfl⟩
theorem okX12_wake : mOK yX12_wake cX12_wake 7 (some .int) 3 := ⟨wt_mem 122 (by decide +kernel) rfl, wt_mem 1984 (by decide +kernel) rfl, by decide +kernel, by decide +kernel, by decide +kernel⟩
theorem inX12_wake : Cond.instanceMethod yX12_wake ∈ WT ∧ Cond.selects (yX12_wake).cls yX12_wake yX12_wake ∈ WT := ⟨wt_mem 1982 (by decide +kernel) rfl, wt_mem 1983 (by decide +kernel) rfl⟩
theorem okX12_divisor : mOK yX12_divisor cX12_divisor 5 (some .int) 2 := ⟨wt_mem 122 (by decide +kernel) rfl, wt_mem 1991 (by decide +kernel) rfl, by decide +kernel, by decide +kernel, by decide +kernel⟩
theorem stX12_divisor : Cond.static yX12_divisor ∈ WT := wt_mem 1990 (by decide +kernel) rfl
theorem okX12_odds : mOK yX12_odds cX12_odds 10 (some .int) 3 := ⟨wt_mem 122 (by decide +kernel) rfl, wt_mem 1988 (by decide +kernel) rfl, by decide +kernel, by decide +kernel, by decide +kernel⟩
theorem inX12_odds : Cond.instanceMethod yX12_odds ∈ WT ∧ Cond.selects (yX12_odds).cls yX12_odds yX12_odds ∈ WT := ⟨wt_mem 1986 (by decide +kernel) rfl, wt_mem 1987 (by decide +kernel) rfl⟩
theorem okX12_lies : mOK yX12_lies cX12_lies 2 (some .int) 1 := ⟨wt_mem 122 (by decide +kernel) rfl, wt_mem 1995 (by decide +kernel) rfl, by decide +kernel, by decide +kernel, by decide +kernel⟩
theorem inX12_lies : Cond.instanceMethod yX12_lies ∈ WT ∧ Cond.selects (yX12_lies).cls yX12_lies yX12_lies ∈ WT := ⟨wt_mem 1993 (by decide +kernel) rfl, wt_mem 1994 (by decide +kernel) rfl⟩
theorem okX12_isLitPlace : mOK yX12_isLitPlace cX12_isLitPlace 2 (some .boolean) 2 := ⟨wt_mem 122 (by decide +kernel) rfl, wt_mem 2002 (by decide +kernel) rfl, by decide +kernel, by decide +kernel, by decide +kernel⟩
theorem stX12_isLitPlace : Cond.static yX12_isLitPlace ∈ WT := wt_mem 2001 (by decide +kernel) rfl
theorem okX12_lit : mOK yX12_lit cX12_lit 4 (some .int) 3 := ⟨wt_mem 122 (by decide +kernel) rfl, wt_mem 1999 (by decide +kernel) rfl, by decide +kernel, by decide +kernel, by decide +kernel⟩
theorem inX12_lit : Cond.instanceMethod yX12_lit ∈ WT ∧ Cond.selects (yX12_lit).cls yX12_lit yX12_lit ∈ WT := ⟨wt_mem 1997 (by decide +kernel) rfl, wt_mem 1998 (by decide +kernel) rfl⟩
theorem okX12_untell : mOK yX12_untell cX12_untell 2 (some .boolean) 1 := ⟨wt_mem 122 (by decide +kernel) rfl, wt_mem 2006 (by decide +kernel) rfl, by decide +kernel, by decide +kernel, by decide +kernel⟩
theorem inX12_untell : Cond.instanceMethod yX12_untell ∈ WT ∧ Cond.selects (yX12_untell).cls yX12_untell yX12_untell ∈ WT := ⟨wt_mem 2004 (by decide +kernel) rfl, wt_mem 2005 (by decide +kernel) rfl⟩
theorem okX12_later : mOK yX12_later cX12_later 2 (some .int) 1 := ⟨wt_mem 122 (by decide +kernel) rfl, wt_mem 2010 (by decide +kernel) rfl, by decide +kernel, by decide +kernel, by decide +kernel⟩
theorem inX12_later : Cond.instanceMethod yX12_later ∈ WT ∧ Cond.selects (yX12_later).cls yX12_later yX12_later ∈ WT := ⟨wt_mem 2008 (by decide +kernel) rfl, wt_mem 2009 (by decide +kernel) rfl⟩
theorem okX12_lightsAt : mOK yX12_lightsAt cX12_lightsAt 5 (some .int) 2 := ⟨wt_mem 122 (by decide +kernel) rfl, wt_mem 2027 (by decide +kernel) rfl, by decide +kernel, by decide +kernel, by decide +kernel⟩
theorem inX12_lightsAt : Cond.instanceMethod yX12_lightsAt ∈ WT ∧ Cond.selects (yX12_lightsAt).cls yX12_lightsAt yX12_lightsAt ∈ WT := ⟨wt_mem 2026 (by decide +kernel) rfl, wt_mem 104 (by decide +kernel) rfl⟩
theorem okX12_isFit : mOK yX12_isFit cX12_isFit 5 (some .boolean) 2 := ⟨wt_mem 122 (by decide +kernel) rfl, wt_mem 2023 (by decide +kernel) rfl, by decide +kernel, by decide +kernel, by decide +kernel⟩
theorem inX12_isFit : Cond.instanceMethod yX12_isFit ∈ WT ∧ Cond.selects (yX12_isFit).cls yX12_isFit yX12_isFit ∈ WT := ⟨wt_mem 2022 (by decide +kernel) rfl, wt_mem 103 (by decide +kernel) rfl⟩
theorem okX12_layFits : mOK yX12_layFits cX12_layFits 6 (some .int) 2 := ⟨wt_mem 122 (by decide +kernel) rfl, wt_mem 2019 (by decide +kernel) rfl, by decide +kernel, by decide +kernel, by decide +kernel⟩
theorem inX12_layFits : Cond.instanceMethod yX12_layFits ∈ WT ∧ Cond.selects (yX12_layFits).cls yX12_layFits yX12_layFits ∈ WT := ⟨wt_mem 2018 (by decide +kernel) rfl, wt_mem 102 (by decide +kernel) rfl⟩
theorem okX12_fits : mOK yX12_fits cX12_fits 2 (some .int) 1 := ⟨wt_mem 122 (by decide +kernel) rfl, wt_mem 2015 (by decide +kernel) rfl, by decide +kernel, by decide +kernel, by decide +kernel⟩
theorem inX12_fits : Cond.instanceMethod yX12_fits ∈ WT ∧ Cond.selects (yX12_fits).cls yX12_fits yX12_fits ∈ WT := ⟨wt_mem 2013 (by decide +kernel) rfl, wt_mem 2014 (by decide +kernel) rfl⟩
theorem okX12_sure : mOK yX12_sure cX12_sure 4 (some .int) 2 := ⟨wt_mem 122 (by decide +kernel) rfl, wt_mem 2031 (by decide +kernel) rfl, by decide +kernel, by decide +kernel, by decide +kernel⟩
theorem inX12_sure : Cond.instanceMethod yX12_sure ∈ WT ∧ Cond.selects (yX12_sure).cls yX12_sure yX12_sure ∈ WT := ⟨wt_mem 2029 (by decide +kernel) rfl, wt_mem 2030 (by decide +kernel) rfl⟩
theorem okX12_ask : mOK yX12_ask cX12_ask 9 (some .int) 3 := ⟨wt_mem 122 (by decide +kernel) rfl, wt_mem 2035 (by decide +kernel) rfl, by decide +kernel, by decide +kernel, by decide +kernel⟩
theorem inX12_ask : Cond.instanceMethod yX12_ask ∈ WT ∧ Cond.selects (yX12_ask).cls yX12_ask yX12_ask ∈ WT := ⟨wt_mem 2033 (by decide +kernel) rfl, wt_mem 2034 (by decide +kernel) rfl⟩
theorem okX12_isBox : mOK yX12_isBox cX12_isBox 1 (some .boolean) 1 := ⟨wt_mem 122 (by decide +kernel) rfl, wt_mem 2042 (by decide +kernel) rfl, by decide +kernel, by decide +kernel, by decide +kernel⟩
theorem stX12_isBox : Cond.static yX12_isBox ∈ WT := wt_mem 2041 (by decide +kernel) rfl
theorem okX12_image : mOK yX12_image cX12_image 3 (some .int) 1 := ⟨wt_mem 122 (by decide +kernel) rfl, wt_mem 2039 (by decide +kernel) rfl, by decide +kernel, by decide +kernel, by decide +kernel⟩
theorem inX12_image : Cond.instanceMethod yX12_image ∈ WT ∧ Cond.selects (yX12_image).cls yX12_image yX12_image ∈ WT := ⟨wt_mem 2037 (by decide +kernel) rfl, wt_mem 2038 (by decide +kernel) rfl⟩
theorem okX12_back : mOK yX12_back cX12_back 3 (some .int) 1 := ⟨wt_mem 122 (by decide +kernel) rfl, wt_mem 2046 (by decide +kernel) rfl, by decide +kernel, by decide +kernel, by decide +kernel⟩
theorem inX12_back : Cond.instanceMethod yX12_back ∈ WT ∧ Cond.selects (yX12_back).cls yX12_back yX12_back ∈ WT := ⟨wt_mem 2044 (by decide +kernel) rfl, wt_mem 2045 (by decide +kernel) rfl⟩
theorem okX12_about : mOK yX12_about cX12_about 2 (some .int) 1 := ⟨wt_mem 122 (by decide +kernel) rfl, wt_mem 2050 (by decide +kernel) rfl, by decide +kernel, by decide +kernel, by decide +kernel⟩
theorem inX12_about : Cond.instanceMethod yX12_about ∈ WT ∧ Cond.selects (yX12_about).cls yX12_about yX12_about ∈ WT := ⟨wt_mem 2048 (by decide +kernel) rfl, wt_mem 2049 (by decide +kernel) rfl⟩
