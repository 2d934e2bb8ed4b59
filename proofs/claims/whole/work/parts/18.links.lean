/-! words of field and method links -/
set_option maxRecDepth 100000 in
theorem fk_J0_9 : Cond.fieldLink RJ0 9 "java/lang/String" "value" "[B" ∈ gtbl := gm 2254 rfl rfl
set_option maxRecDepth 100000 in
theorem fk_J0_15 : Cond.fieldLink RJ0 15 "java/lang/String" "coder" "B" ∈ gtbl := gm 2253 rfl rfl
set_option maxRecDepth 100000 in
theorem fk_J0_38 : Cond.fieldLink RJ0 38 "java/lang/String" "COMPACT_STRINGS" "Z" ∈ gtbl := gm 549 rfl rfl
set_option maxRecDepth 100000 in
theorem fk_J0_1053 : Cond.fieldLink RJ0 1053 "jdk/internal/util/Preconditions" "SIOOBE_FORMATTER" "Ljava/util/function/BiFunction;" ∈ gtbl := gm 557 rfl rfl
set_option maxRecDepth 100000 in
theorem fk_X0_13 : Cond.fieldLink RX0 13 (TX0 3).1 (TX0 3).2.1 (TX0 3).2.2.1 ∈ gtbl := gm 357 rfl rfl
set_option maxRecDepth 100000 in
theorem fk_X0_17 : Cond.fieldLink RX0 17 (TX0 4).1 (TX0 4).2.1 (TX0 4).2.2.1 ∈ gtbl := gm 358 rfl rfl
set_option maxRecDepth 100000 in
theorem fk_X0_20 : Cond.fieldLink RX0 20 (TX0 5).1 (TX0 5).2.1 (TX0 5).2.2.1 ∈ gtbl := gm 359 rfl rfl
set_option maxRecDepth 100000 in
theorem fk_X0_23 : Cond.fieldLink RX0 23 (TX0 6).1 (TX0 6).2.1 (TX0 6).2.2.1 ∈ gtbl := gm 360 rfl rfl
set_option maxRecDepth 100000 in
theorem fk_X0_26 : Cond.fieldLink RX0 26 (TX0 7).1 (TX0 7).2.1 (TX0 7).2.2.1 ∈ gtbl := gm 361 rfl rfl
set_option maxRecDepth 100000 in
theorem fk_X0_29 : Cond.fieldLink RX0 29 (TX0 8).1 (TX0 8).2.1 (TX0 8).2.2.1 ∈ gtbl := gm 362 rfl rfl
set_option maxRecDepth 100000 in
theorem fk_X0_32 : Cond.fieldLink RX0 32 (TX0 9).1 (TX0 9).2.1 (TX0 9).2.2.1 ∈ gtbl := gm 363 rfl rfl
set_option maxRecDepth 100000 in
theorem fk_X0_35 : Cond.fieldLink RX0 35 (TX0 10).1 (TX0 10).2.1 (TX0 10).2.2.1 ∈ gtbl := gm 364 rfl rfl
set_option maxRecDepth 100000 in
theorem fk_X0_38 : Cond.fieldLink RX0 38 (TX0 11).1 (TX0 11).2.1 (TX0 11).2.2.1 ∈ gtbl := gm 365 rfl rfl
set_option maxRecDepth 100000 in
theorem fk_X0_41 : Cond.fieldLink RX0 41 (TX0 0).1 (TX0 0).2.1 (TX0 0).2.2.1 ∈ gtbl := gm 354 rfl rfl
set_option maxRecDepth 100000 in
theorem fk_X0_45 : Cond.fieldLink RX0 45 (TX0 1).1 (TX0 1).2.1 (TX0 1).2.2.1 ∈ gtbl := gm 355 rfl rfl
set_option maxRecDepth 100000 in
theorem fk_X0_49 : Cond.fieldLink RX0 49 (TX0 2).1 (TX0 2).2.1 (TX0 2).2.2.1 ∈ gtbl := gm 356 rfl rfl
set_option maxRecDepth 100000 in
theorem fk_X0_53 : Cond.fieldLink RX0 53 (TX0 13).1 (TX0 13).2.1 (TX0 13).2.2.1 ∈ gtbl := gm 367 rfl rfl
set_option maxRecDepth 100000 in
theorem fk_X0_57 : Cond.fieldLink RX0 57 (TX0 14).1 (TX0 14).2.1 (TX0 14).2.2.1 ∈ gtbl := gm 368 rfl rfl
set_option maxRecDepth 100000 in
theorem fk_X0_141 : Cond.fieldLink RX0 141 (TX0 12).1 (TX0 12).2.1 (TX0 12).2.2.1 ∈ gtbl := gm 366 rfl rfl
set_option maxRecDepth 100000 in
theorem fk_X1_11 : Cond.fieldLink RX1 11 (TX1 0).1 (TX1 0).2.1 (TX1 0).2.2.1 ∈ gtbl := gm 229 rfl rfl
set_option maxRecDepth 100000 in
theorem fk_X1_15 : Cond.fieldLink RX1 15 (TX1 1).1 (TX1 1).2.1 (TX1 1).2.2.1 ∈ gtbl := gm 230 rfl rfl
set_option maxRecDepth 100000 in
theorem fk_X1_18 : Cond.fieldLink RX1 18 (TX1 2).1 (TX1 2).2.1 (TX1 2).2.2.1 ∈ gtbl := gm 231 rfl rfl
set_option maxRecDepth 100000 in
theorem fk_X1_21 : Cond.fieldLink RX1 21 (TX1 3).1 (TX1 3).2.1 (TX1 3).2.2.1 ∈ gtbl := gm 232 rfl rfl
set_option maxRecDepth 100000 in
theorem fk_X1_25 : Cond.fieldLink RX1 25 (TX1 4).1 (TX1 4).2.1 (TX1 4).2.2.1 ∈ gtbl := gm 233 rfl rfl
set_option maxRecDepth 100000 in
theorem fk_X1_28 : Cond.fieldLink RX1 28 (TX1 5).1 (TX1 5).2.1 (TX1 5).2.2.1 ∈ gtbl := gm 234 rfl rfl
set_option maxRecDepth 100000 in
theorem fk_X1_51 : Cond.fieldLink RX1 51 "WokenBorder$Car" "WITHOUT" "[I" ∈ gtbl := gm 513 rfl rfl
set_option maxRecDepth 100000 in
theorem fk_X1_88 : Cond.fieldLink RX1 88 "WokenBorder$Car" "LOWEST" "[I" ∈ gtbl := gm 590 rfl rfl
set_option maxRecDepth 100000 in
theorem fk_X1_91 : Cond.fieldLink RX1 91 "WokenBorder$Car" "HIGHEST" "[I" ∈ gtbl := gm 592 rfl rfl
set_option maxRecDepth 100000 in
theorem fk_X10_11 : Cond.fieldLink RX10 11 (TX10 0).1 (TX10 0).2.1 (TX10 0).2.2.1 ∈ gtbl := gm 153 rfl rfl
set_option maxRecDepth 100000 in
theorem fk_X10_15 : Cond.fieldLink RX10 15 (TX10 1).1 (TX10 1).2.1 (TX10 1).2.2.1 ∈ gtbl := gm 154 rfl rfl
set_option maxRecDepth 100000 in
theorem fk_X10_19 : Cond.fieldLink RX10 19 (TX10 2).1 (TX10 2).2.1 (TX10 2).2.2.1 ∈ gtbl := gm 155 rfl rfl
set_option maxRecDepth 100000 in
theorem fk_X11_10 : Cond.fieldLink RX11 10 (TX11 0).1 (TX11 0).2.1 (TX11 0).2.2.1 ∈ gtbl := gm 435 rfl rfl
set_option maxRecDepth 100000 in
theorem fk_X11_19 : Cond.fieldLink RX11 19 (TX11 1).1 (TX11 1).2.1 (TX11 1).2.2.1 ∈ gtbl := gm 436 rfl rfl
set_option maxRecDepth 100000 in
theorem fk_X11_26 : Cond.fieldLink RX11 26 (TX11 2).1 (TX11 2).2.1 (TX11 2).2.2.1 ∈ gtbl := gm 437 rfl rfl
set_option maxRecDepth 100000 in
theorem fk_X11_30 : Cond.fieldLink RX11 30 (TX11 3).1 (TX11 3).2.1 (TX11 3).2.2.1 ∈ gtbl := gm 438 rfl rfl
set_option maxRecDepth 100000 in
theorem fk_X11_36 : Cond.fieldLink RX11 36 (TX11 4).1 (TX11 4).2.1 (TX11 4).2.2.1 ∈ gtbl := gm 439 rfl rfl
set_option maxRecDepth 100000 in
theorem fk_X11_40 : Cond.fieldLink RX11 40 (TX11 5).1 (TX11 5).2.1 (TX11 5).2.2.1 ∈ gtbl := gm 440 rfl rfl
set_option maxRecDepth 100000 in
theorem fk_X11_48 : Cond.fieldLink RX11 48 (TX11 6).1 (TX11 6).2.1 (TX11 6).2.2.1 ∈ gtbl := gm 441 rfl rfl
set_option maxRecDepth 100000 in
theorem fk_X11_55 : Cond.fieldLink RX11 55 (TX11 7).1 (TX11 7).2.1 (TX11 7).2.2.1 ∈ gtbl := gm 442 rfl rfl
set_option maxRecDepth 100000 in
theorem fk_X11_64 : Cond.fieldLink RX11 64 (TX11 8).1 (TX11 8).2.1 (TX11 8).2.2.1 ∈ gtbl := gm 443 rfl rfl
set_option maxRecDepth 100000 in
theorem fk_X11_71 : Cond.fieldLink RX11 71 (TX11 9).1 (TX11 9).2.1 (TX11 9).2.2.1 ∈ gtbl := gm 444 rfl rfl
set_option maxRecDepth 100000 in
theorem fk_X11_78 : Cond.fieldLink RX11 78 (TX11 10).1 (TX11 10).2.1 (TX11 10).2.2.1 ∈ gtbl := gm 445 rfl rfl
set_option maxRecDepth 100000 in
theorem fk_X11_82 : Cond.fieldLink RX11 82 (TX11 11).1 (TX11 11).2.1 (TX11 11).2.2.1 ∈ gtbl := gm 446 rfl rfl
set_option maxRecDepth 100000 in
theorem fk_X11_86 : Cond.fieldLink RX11 86 (TX11 12).1 (TX11 12).2.1 (TX11 12).2.2.1 ∈ gtbl := gm 447 rfl rfl
set_option maxRecDepth 100000 in
theorem fk_X11_188 : Cond.fieldLink RX11 188 (TX11 13).1 (TX11 13).2.1 (TX11 13).2.2.1 ∈ gtbl := gm 448 rfl rfl
set_option maxRecDepth 100000 in
theorem fk_X12_9 : Cond.fieldLink RX12 9 (TX12 1).1 (TX12 1).2.1 (TX12 1).2.2.1 ∈ gtbl := gm 1554 rfl rfl
set_option maxRecDepth 100000 in
theorem fk_X12_13 : Cond.fieldLink RX12 13 (TX12 2).1 (TX12 2).2.1 (TX12 2).2.2.1 ∈ gtbl := gm 1555 rfl rfl
set_option maxRecDepth 100000 in
theorem fk_X12_16 : Cond.fieldLink RX12 16 (TX12 3).1 (TX12 3).2.1 (TX12 3).2.2.1 ∈ gtbl := gm 1556 rfl rfl
set_option maxRecDepth 100000 in
theorem fk_X12_20 : Cond.fieldLink RX12 20 (TX12 4).1 (TX12 4).2.1 (TX12 4).2.2.1 ∈ gtbl := gm 1557 rfl rfl
set_option maxRecDepth 100000 in
theorem fk_X12_23 : Cond.fieldLink RX12 23 (TX12 5).1 (TX12 5).2.1 (TX12 5).2.2.1 ∈ gtbl := gm 1558 rfl rfl
set_option maxRecDepth 100000 in
theorem fk_X12_28 : Cond.fieldLink RX12 28 (TX12 15).1 (TX12 15).2.1 (TX12 15).2.2.1 ∈ gtbl := gm 1568 rfl rfl
set_option maxRecDepth 100000 in
theorem fk_X12_34 : Cond.fieldLink RX12 34 (TX12 16).1 (TX12 16).2.1 (TX12 16).2.2.1 ∈ gtbl := gm 1569 rfl rfl
set_option maxRecDepth 100000 in
theorem fk_X12_37 : Cond.fieldLink RX12 37 (TX12 18).1 (TX12 18).2.1 (TX12 18).2.2.1 ∈ gtbl := gm 1571 rfl rfl
set_option maxRecDepth 100000 in
theorem fk_X12_40 : Cond.fieldLink RX12 40 (TX12 19).1 (TX12 19).2.1 (TX12 19).2.2.1 ∈ gtbl := gm 1572 rfl rfl
set_option maxRecDepth 100000 in
theorem fk_X12_43 : Cond.fieldLink RX12 43 (TX12 20).1 (TX12 20).2.1 (TX12 20).2.2.1 ∈ gtbl := gm 1573 rfl rfl
set_option maxRecDepth 100000 in
theorem fk_X12_46 : Cond.fieldLink RX12 46 (TX12 21).1 (TX12 21).2.1 (TX12 21).2.2.1 ∈ gtbl := gm 1574 rfl rfl
set_option maxRecDepth 100000 in
theorem fk_X12_49 : Cond.fieldLink RX12 49 (TX12 22).1 (TX12 22).2.1 (TX12 22).2.2.1 ∈ gtbl := gm 1575 rfl rfl
set_option maxRecDepth 100000 in
theorem fk_X12_52 : Cond.fieldLink RX12 52 (TX12 23).1 (TX12 23).2.1 (TX12 23).2.2.1 ∈ gtbl := gm 1576 rfl rfl
set_option maxRecDepth 100000 in
theorem fk_X12_55 : Cond.fieldLink RX12 55 (TX12 24).1 (TX12 24).2.1 (TX12 24).2.2.1 ∈ gtbl := gm 1577 rfl rfl
set_option maxRecDepth 100000 in
theorem fk_X12_58 : Cond.fieldLink RX12 58 (TX12 25).1 (TX12 25).2.1 (TX12 25).2.2.1 ∈ gtbl := gm 1578 rfl rfl
set_option maxRecDepth 100000 in
theorem fk_X12_61 : Cond.fieldLink RX12 61 (TX12 33).1 (TX12 33).2.1 (TX12 33).2.2.1 ∈ gtbl := gm 1586 rfl rfl
set_option maxRecDepth 100000 in
theorem fk_X12_64 : Cond.fieldLink RX12 64 (TX12 34).1 (TX12 34).2.1 (TX12 34).2.2.1 ∈ gtbl := gm 1587 rfl rfl
set_option maxRecDepth 100000 in
theorem fk_X12_67 : Cond.fieldLink RX12 67 (TX12 35).1 (TX12 35).2.1 (TX12 35).2.2.1 ∈ gtbl := gm 1588 rfl rfl
set_option maxRecDepth 100000 in
theorem fk_X12_71 : Cond.fieldLink RX12 71 (TX12 36).1 (TX12 36).2.1 (TX12 36).2.2.1 ∈ gtbl := gm 1589 rfl rfl
set_option maxRecDepth 100000 in
theorem fk_X12_74 : Cond.fieldLink RX12 74 (TX12 41).1 (TX12 41).2.1 (TX12 41).2.2.1 ∈ gtbl := gm 1594 rfl rfl
set_option maxRecDepth 100000 in
theorem fk_X12_77 : Cond.fieldLink RX12 77 (TX12 46).1 (TX12 46).2.1 (TX12 46).2.2.1 ∈ gtbl := gm 1599 rfl rfl
set_option maxRecDepth 100000 in
theorem fk_X12_80 : Cond.fieldLink RX12 80 (TX12 47).1 (TX12 47).2.1 (TX12 47).2.2.1 ∈ gtbl := gm 1600 rfl rfl
set_option maxRecDepth 100000 in
theorem fk_X12_84 : Cond.fieldLink RX12 84 (TX12 48).1 (TX12 48).2.1 (TX12 48).2.2.1 ∈ gtbl := gm 1601 rfl rfl
set_option maxRecDepth 100000 in
theorem fk_X12_87 : Cond.fieldLink RX12 87 (TX12 50).1 (TX12 50).2.1 (TX12 50).2.2.1 ∈ gtbl := gm 1603 rfl rfl
set_option maxRecDepth 100000 in
theorem fk_X12_90 : Cond.fieldLink RX12 90 (TX12 51).1 (TX12 51).2.1 (TX12 51).2.2.1 ∈ gtbl := gm 1604 rfl rfl
set_option maxRecDepth 100000 in
theorem fk_X12_93 : Cond.fieldLink RX12 93 (TX12 55).1 (TX12 55).2.1 (TX12 55).2.2.1 ∈ gtbl := gm 1608 rfl rfl
set_option maxRecDepth 100000 in
theorem fk_X12_96 : Cond.fieldLink RX12 96 (TX12 56).1 (TX12 56).2.1 (TX12 56).2.2.1 ∈ gtbl := gm 1609 rfl rfl
set_option maxRecDepth 100000 in
theorem fk_X12_99 : Cond.fieldLink RX12 99 (TX12 0).1 (TX12 0).2.1 (TX12 0).2.2.1 ∈ gtbl := gm 1553 rfl rfl
set_option maxRecDepth 100000 in
theorem fk_X12_112 : Cond.fieldLink RX12 112 (TX12 6).1 (TX12 6).2.1 (TX12 6).2.2.1 ∈ gtbl := gm 1559 rfl rfl
set_option maxRecDepth 100000 in
theorem fk_X12_122 : Cond.fieldLink RX12 122 (TX12 10).1 (TX12 10).2.1 (TX12 10).2.2.1 ∈ gtbl := gm 1563 rfl rfl
set_option maxRecDepth 100000 in
theorem fk_X12_125 : Cond.fieldLink RX12 125 (TX12 9).1 (TX12 9).2.1 (TX12 9).2.2.1 ∈ gtbl := gm 1562 rfl rfl
set_option maxRecDepth 100000 in
theorem fk_X12_128 : Cond.fieldLink RX12 128 (TX12 8).1 (TX12 8).2.1 (TX12 8).2.2.1 ∈ gtbl := gm 1561 rfl rfl
set_option maxRecDepth 100000 in
theorem fk_X12_131 : Cond.fieldLink RX12 131 (TX12 11).1 (TX12 11).2.1 (TX12 11).2.2.1 ∈ gtbl := gm 1564 rfl rfl
set_option maxRecDepth 100000 in
theorem fk_X12_134 : Cond.fieldLink RX12 134 (TX12 12).1 (TX12 12).2.1 (TX12 12).2.2.1 ∈ gtbl := gm 1565 rfl rfl
set_option maxRecDepth 100000 in
theorem fk_X12_200 : Cond.fieldLink RX12 200 (TX12 17).1 (TX12 17).2.1 (TX12 17).2.2.1 ∈ gtbl := gm 1570 rfl rfl
set_option maxRecDepth 100000 in
theorem fk_X12_204 : Cond.fieldLink RX12 204 (TX12 13).1 (TX12 13).2.1 (TX12 13).2.2.1 ∈ gtbl := gm 1566 rfl rfl
set_option maxRecDepth 100000 in
theorem fk_X12_207 : Cond.fieldLink RX12 207 (TX12 14).1 (TX12 14).2.1 (TX12 14).2.2.1 ∈ gtbl := gm 1567 rfl rfl
set_option maxRecDepth 100000 in
theorem fk_X12_245 : Cond.fieldLink RX12 245 (TX12 32).1 (TX12 32).2.1 (TX12 32).2.2.1 ∈ gtbl := gm 1585 rfl rfl
set_option maxRecDepth 100000 in
theorem fk_X12_248 : Cond.fieldLink RX12 248 (TX12 29).1 (TX12 29).2.1 (TX12 29).2.2.1 ∈ gtbl := gm 1582 rfl rfl
set_option maxRecDepth 100000 in
theorem fk_X12_251 : Cond.fieldLink RX12 251 (TX12 30).1 (TX12 30).2.1 (TX12 30).2.2.1 ∈ gtbl := gm 1583 rfl rfl
set_option maxRecDepth 100000 in
theorem fk_X12_289 : Cond.fieldLink RX12 289 (TX12 7).1 (TX12 7).2.1 (TX12 7).2.2.1 ∈ gtbl := gm 1560 rfl rfl
set_option maxRecDepth 100000 in
theorem fk_X12_292 : Cond.fieldLink RX12 292 (TX12 31).1 (TX12 31).2.1 (TX12 31).2.2.1 ∈ gtbl := gm 1584 rfl rfl
set_option maxRecDepth 100000 in
theorem fk_X12_297 : Cond.fieldLink RX12 297 (TX12 26).1 (TX12 26).2.1 (TX12 26).2.2.1 ∈ gtbl := gm 1579 rfl rfl
set_option maxRecDepth 100000 in
theorem fk_X12_300 : Cond.fieldLink RX12 300 (TX12 27).1 (TX12 27).2.1 (TX12 27).2.2.1 ∈ gtbl := gm 1580 rfl rfl
set_option maxRecDepth 100000 in
theorem fk_X12_303 : Cond.fieldLink RX12 303 (TX12 28).1 (TX12 28).2.1 (TX12 28).2.2.1 ∈ gtbl := gm 1581 rfl rfl
set_option maxRecDepth 100000 in
theorem fk_X12_306 : Cond.fieldLink RX12 306 (TX12 49).1 (TX12 49).2.1 (TX12 49).2.2.1 ∈ gtbl := gm 1602 rfl rfl
set_option maxRecDepth 100000 in
theorem fk_X12_309 : Cond.fieldLink RX12 309 (TX12 52).1 (TX12 52).2.1 (TX12 52).2.2.1 ∈ gtbl := gm 1605 rfl rfl
set_option maxRecDepth 100000 in
theorem fk_X12_312 : Cond.fieldLink RX12 312 (TX12 42).1 (TX12 42).2.1 (TX12 42).2.2.1 ∈ gtbl := gm 1595 rfl rfl
set_option maxRecDepth 100000 in
theorem fk_X12_315 : Cond.fieldLink RX12 315 (TX12 57).1 (TX12 57).2.1 (TX12 57).2.2.1 ∈ gtbl := gm 1610 rfl rfl
set_option maxRecDepth 100000 in
theorem fk_X12_333 : Cond.fieldLink RX12 333 (TX12 37).1 (TX12 37).2.1 (TX12 37).2.2.1 ∈ gtbl := gm 1590 rfl rfl
set_option maxRecDepth 100000 in
theorem fk_X12_336 : Cond.fieldLink RX12 336 (TX12 38).1 (TX12 38).2.1 (TX12 38).2.2.1 ∈ gtbl := gm 1591 rfl rfl
set_option maxRecDepth 100000 in
theorem fk_X12_339 : Cond.fieldLink RX12 339 (TX12 39).1 (TX12 39).2.1 (TX12 39).2.2.1 ∈ gtbl := gm 1592 rfl rfl
set_option maxRecDepth 100000 in
theorem fk_X12_342 : Cond.fieldLink RX12 342 (TX12 40).1 (TX12 40).2.1 (TX12 40).2.2.1 ∈ gtbl := gm 1593 rfl rfl
set_option maxRecDepth 100000 in
theorem fk_X12_419 : Cond.fieldLink RX12 419 (TX12 43).1 (TX12 43).2.1 (TX12 43).2.2.1 ∈ gtbl := gm 1596 rfl rfl
set_option maxRecDepth 100000 in
theorem fk_X12_457 : Cond.fieldLink RX12 457 (TX12 44).1 (TX12 44).2.1 (TX12 44).2.2.1 ∈ gtbl := gm 1597 rfl rfl
set_option maxRecDepth 100000 in
theorem fk_X12_460 : Cond.fieldLink RX12 460 (TX12 45).1 (TX12 45).2.1 (TX12 45).2.2.1 ∈ gtbl := gm 1598 rfl rfl
set_option maxRecDepth 100000 in
theorem fk_X12_498 : Cond.fieldLink RX12 498 (TX12 53).1 (TX12 53).2.1 (TX12 53).2.2.1 ∈ gtbl := gm 1606 rfl rfl
set_option maxRecDepth 100000 in
theorem fk_X12_501 : Cond.fieldLink RX12 501 (TX12 54).1 (TX12 54).2.1 (TX12 54).2.2.1 ∈ gtbl := gm 1607 rfl rfl
set_option maxRecDepth 100000 in
theorem fk_X2_11 : Cond.fieldLink RX2 11 (TX2 3).1 (TX2 3).2.1 (TX2 3).2.2.1 ∈ gtbl := gm 409 rfl rfl
set_option maxRecDepth 100000 in
theorem fk_X2_15 : Cond.fieldLink RX2 15 (TX2 4).1 (TX2 4).2.1 (TX2 4).2.2.1 ∈ gtbl := gm 410 rfl rfl
set_option maxRecDepth 100000 in
theorem fk_X2_19 : Cond.fieldLink RX2 19 (TX2 5).1 (TX2 5).2.1 (TX2 5).2.2.1 ∈ gtbl := gm 411 rfl rfl
set_option maxRecDepth 100000 in
theorem fk_X2_22 : Cond.fieldLink RX2 22 (TX2 6).1 (TX2 6).2.1 (TX2 6).2.2.1 ∈ gtbl := gm 412 rfl rfl
set_option maxRecDepth 100000 in
theorem fk_X2_25 : Cond.fieldLink RX2 25 (TX2 0).1 (TX2 0).2.1 (TX2 0).2.2.1 ∈ gtbl := gm 406 rfl rfl
set_option maxRecDepth 100000 in
theorem fk_X2_29 : Cond.fieldLink RX2 29 (TX2 1).1 (TX2 1).2.1 (TX2 1).2.2.1 ∈ gtbl := gm 407 rfl rfl
set_option maxRecDepth 100000 in
theorem fk_X2_33 : Cond.fieldLink RX2 33 (TX2 2).1 (TX2 2).2.1 (TX2 2).2.2.1 ∈ gtbl := gm 408 rfl rfl
set_option maxRecDepth 100000 in
theorem fk_X2_37 : Cond.fieldLink RX2 37 (TX2 7).1 (TX2 7).2.1 (TX2 7).2.2.1 ∈ gtbl := gm 413 rfl rfl
set_option maxRecDepth 100000 in
theorem fk_X2_41 : Cond.fieldLink RX2 41 (TX2 8).1 (TX2 8).2.1 (TX2 8).2.2.1 ∈ gtbl := gm 414 rfl rfl
set_option maxRecDepth 100000 in
theorem fk_X3_11 : Cond.fieldLink RX3 11 (TX3 1).1 (TX3 1).2.1 (TX3 1).2.2.1 ∈ gtbl := gm 265 rfl rfl
set_option maxRecDepth 100000 in
theorem fk_X3_17 : Cond.fieldLink RX3 17 (TX3 0).1 (TX3 0).2.1 (TX3 0).2.2.1 ∈ gtbl := gm 264 rfl rfl
set_option maxRecDepth 100000 in
theorem fk_X3_21 : Cond.fieldLink RX3 21 (TX3 2).1 (TX3 2).2.1 (TX3 2).2.2.1 ∈ gtbl := gm 266 rfl rfl
set_option maxRecDepth 100000 in
theorem fk_X3_25 : Cond.fieldLink RX3 25 (TX3 3).1 (TX3 3).2.1 (TX3 3).2.2.1 ∈ gtbl := gm 267 rfl rfl
set_option maxRecDepth 100000 in
theorem fk_X3_29 : Cond.fieldLink RX3 29 (TX3 4).1 (TX3 4).2.1 (TX3 4).2.2.1 ∈ gtbl := gm 268 rfl rfl
set_option maxRecDepth 100000 in
theorem fk_X4_11 : Cond.fieldLink RX4 11 (TX4 0).1 (TX4 0).2.1 (TX4 0).2.2.1 ∈ gtbl := gm 179 rfl rfl
set_option maxRecDepth 100000 in
theorem fk_X4_17 : Cond.fieldLink RX4 17 (TX4 1).1 (TX4 1).2.1 (TX4 1).2.2.1 ∈ gtbl := gm 180 rfl rfl
set_option maxRecDepth 100000 in
theorem fk_X4_20 : Cond.fieldLink RX4 20 (TX4 2).1 (TX4 2).2.1 (TX4 2).2.2.1 ∈ gtbl := gm 181 rfl rfl
set_option maxRecDepth 100000 in
theorem fk_X4_87 : Cond.fieldLink RX4 87 (TX4 3).1 (TX4 3).2.1 (TX4 3).2.2.1 ∈ gtbl := gm 182 rfl rfl
set_option maxRecDepth 100000 in
theorem fk_X5_11 : Cond.fieldLink RX5 11 (TX5 0).1 (TX5 0).2.1 (TX5 0).2.2.1 ∈ gtbl := gm 197 rfl rfl
set_option maxRecDepth 100000 in
theorem fk_X5_15 : Cond.fieldLink RX5 15 (TX5 1).1 (TX5 1).2.1 (TX5 1).2.2.1 ∈ gtbl := gm 198 rfl rfl
set_option maxRecDepth 100000 in
theorem fk_X6_11 : Cond.fieldLink RX6 11 (TX6 0).1 (TX6 0).2.1 (TX6 0).2.2.1 ∈ gtbl := gm 286 rfl rfl
set_option maxRecDepth 100000 in
theorem fk_X6_15 : Cond.fieldLink RX6 15 (TX6 1).1 (TX6 1).2.1 (TX6 1).2.2.1 ∈ gtbl := gm 287 rfl rfl
set_option maxRecDepth 100000 in
theorem fk_X6_18 : Cond.fieldLink RX6 18 (TX6 2).1 (TX6 2).2.1 (TX6 2).2.2.1 ∈ gtbl := gm 288 rfl rfl
set_option maxRecDepth 100000 in
theorem fk_X6_21 : Cond.fieldLink RX6 21 (TX6 3).1 (TX6 3).2.1 (TX6 3).2.2.1 ∈ gtbl := gm 289 rfl rfl
set_option maxRecDepth 100000 in
theorem fk_X6_24 : Cond.fieldLink RX6 24 (TX6 5).1 (TX6 5).2.1 (TX6 5).2.2.1 ∈ gtbl := gm 291 rfl rfl
set_option maxRecDepth 100000 in
theorem fk_X6_28 : Cond.fieldLink RX6 28 (TX6 6).1 (TX6 6).2.1 (TX6 6).2.2.1 ∈ gtbl := gm 292 rfl rfl
set_option maxRecDepth 100000 in
theorem fk_X6_32 : Cond.fieldLink RX6 32 (TX6 4).1 (TX6 4).2.1 (TX6 4).2.2.1 ∈ gtbl := gm 290 rfl rfl
set_option maxRecDepth 100000 in
theorem fk_X7_13 : Cond.fieldLink RX7 13 (TX7 3).1 (TX7 3).2.1 (TX7 3).2.2.1 ∈ gtbl := gm 317 rfl rfl
set_option maxRecDepth 100000 in
theorem fk_X7_17 : Cond.fieldLink RX7 17 (TX7 4).1 (TX7 4).2.1 (TX7 4).2.2.1 ∈ gtbl := gm 318 rfl rfl
set_option maxRecDepth 100000 in
theorem fk_X7_20 : Cond.fieldLink RX7 20 (TX7 5).1 (TX7 5).2.1 (TX7 5).2.2.1 ∈ gtbl := gm 319 rfl rfl
set_option maxRecDepth 100000 in
theorem fk_X7_23 : Cond.fieldLink RX7 23 (TX7 6).1 (TX7 6).2.1 (TX7 6).2.2.1 ∈ gtbl := gm 320 rfl rfl
set_option maxRecDepth 100000 in
theorem fk_X7_26 : Cond.fieldLink RX7 26 (TX7 0).1 (TX7 0).2.1 (TX7 0).2.2.1 ∈ gtbl := gm 314 rfl rfl
set_option maxRecDepth 100000 in
theorem fk_X7_30 : Cond.fieldLink RX7 30 (TX7 1).1 (TX7 1).2.1 (TX7 1).2.2.1 ∈ gtbl := gm 315 rfl rfl
set_option maxRecDepth 100000 in
theorem fk_X7_34 : Cond.fieldLink RX7 34 (TX7 2).1 (TX7 2).2.1 (TX7 2).2.2.1 ∈ gtbl := gm 316 rfl rfl
set_option maxRecDepth 100000 in
theorem fk_X7_38 : Cond.fieldLink RX7 38 (TX7 9).1 (TX7 9).2.1 (TX7 9).2.2.1 ∈ gtbl := gm 323 rfl rfl
set_option maxRecDepth 100000 in
theorem fk_X7_42 : Cond.fieldLink RX7 42 (TX7 10).1 (TX7 10).2.1 (TX7 10).2.2.1 ∈ gtbl := gm 324 rfl rfl
set_option maxRecDepth 100000 in
theorem fk_X7_77 : Cond.fieldLink RX7 77 (TX7 7).1 (TX7 7).2.1 (TX7 7).2.2.1 ∈ gtbl := gm 321 rfl rfl
set_option maxRecDepth 100000 in
theorem fk_X7_88 : Cond.fieldLink RX7 88 (TX7 8).1 (TX7 8).2.1 (TX7 8).2.2.1 ∈ gtbl := gm 322 rfl rfl
set_option maxRecDepth 100000 in
theorem fk_X8_11 : Cond.fieldLink RX8 11 (TX8 0).1 (TX8 0).2.1 (TX8 0).2.2.1 ∈ gtbl := gm 254 rfl rfl
set_option maxRecDepth 100000 in
theorem fk_X9_13 : Cond.fieldLink RX9 13 (TX9 0).1 (TX9 0).2.1 (TX9 0).2.2.1 ∈ gtbl := gm 204 rfl rfl
set_option maxRecDepth 100000 in
theorem fk_X9_19 : Cond.fieldLink RX9 19 (TX9 1).1 (TX9 1).2.1 (TX9 1).2.2.1 ∈ gtbl := gm 205 rfl rfl
set_option maxRecDepth 100000 in
theorem fk_X9_24 : Cond.fieldLink RX9 24 (TX9 2).1 (TX9 2).2.1 (TX9 2).2.2.1 ∈ gtbl := gm 206 rfl rfl
set_option maxRecDepth 100000 in
theorem fk_X9_29 : Cond.fieldLink RX9 29 (TX9 3).1 (TX9 3).2.1 (TX9 3).2.2.1 ∈ gtbl := gm 207 rfl rfl
set_option maxRecDepth 100000 in
theorem fk_X9_33 : Cond.fieldLink RX9 33 (TX9 4).1 (TX9 4).2.1 (TX9 4).2.2.1 ∈ gtbl := gm 208 rfl rfl
set_option maxRecDepth 100000 in
theorem fk_X9_37 : Cond.fieldLink RX9 37 (TX9 5).1 (TX9 5).2.1 (TX9 5).2.2.1 ∈ gtbl := gm 209 rfl rfl
set_option maxRecDepth 100000 in
theorem ld_J0_coder_7d493 : aLd yJ0_coder_7d493 0 := ⟨by decide +kernel, by decide +kernel, by decide +kernel⟩
set_option maxRecDepth 100000 in
theorem lk_J0_335 : aLV RJ0 335 yJ0_coder_7d493 cJ0_coder_7d493 1 (some .byte) 0 := ⟨gm 1787 rfl rfl, gm 1788 rfl rfl, gm 1789 rfl rfl, gm 128 rfl rfl, gm 1790 rfl rfl, ld_J0_coder_7d493⟩
set_option maxRecDepth 100000 in
theorem ld_J0_isLatin1_aae02 : aLd yJ0_isLatin1_aae02 0 := ⟨by decide +kernel, by decide +kernel, by decide +kernel⟩
set_option maxRecDepth 100000 in
theorem lk_J0_492 : aLV RJ0 492 yJ0_isLatin1_aae02 cJ0_isLatin1_aae02 1 (some .boolean) 0 := ⟨gm 545 rfl rfl, gm 546 rfl rfl, gm 547 rfl rfl, gm 128 rfl rfl, gm 548 rfl rfl, ld_J0_isLatin1_aae02⟩
set_option maxRecDepth 100000 in
theorem ld_J1_charAt_3b067 : aLd yJ1_charAt_3b067 2 := ⟨by decide +kernel, by decide +kernel, by decide +kernel⟩
set_option maxRecDepth 100000 in
theorem lk_J0_495 : aLS RJ0 495 yJ1_charAt_3b067 cJ1_charAt_3b067 2 (some .char) 2 := ⟨gm 551 rfl rfl, gm 552 rfl rfl, gm 129 rfl rfl, gm 553 rfl rfl, ld_J1_charAt_3b067⟩
set_option maxRecDepth 100000 in
theorem ld_J2_charAt_3b067 : aLd yJ2_charAt_3b067 2 := ⟨by decide +kernel, by decide +kernel, by decide +kernel⟩
set_option maxRecDepth 100000 in
theorem lk_J0_498 : aLS RJ0 498 yJ2_charAt_3b067 cJ2_charAt_3b067 2 (some .char) 2 := ⟨gm 562 rfl rfl, gm 563 rfl rfl, gm 131 rfl rfl, gm 564 rfl rfl, ld_J2_charAt_3b067⟩
set_option maxRecDepth 100000 in
theorem ld_J3_checkIndex_8e157 : aLd yJ3_checkIndex_8e157 3 := ⟨by decide +kernel, by decide +kernel, by decide +kernel⟩
set_option maxRecDepth 100000 in
theorem lk_J0_1059 : aLS RJ0 1059 yJ3_checkIndex_8e157 cJ3_checkIndex_8e157 3 (some .int) 3 := ⟨gm 559 rfl rfl, gm 560 rfl rfl, gm 130 rfl rfl, gm 561 rfl rfl, ld_J3_checkIndex_8e157⟩
set_option maxRecDepth 100000 in
theorem ld_J0_checkIndex_df160 : aLd yJ0_checkIndex_df160 2 := ⟨by decide +kernel, by decide +kernel, by decide +kernel⟩
set_option maxRecDepth 100000 in
theorem lk_J1_9 : aLS RJ1 9 yJ0_checkIndex_df160 cJ0_checkIndex_df160 2 none 2 := ⟨gm 554 rfl rfl, gm 555 rfl rfl, gm 128 rfl rfl, gm 556 rfl rfl, ld_J0_checkIndex_df160⟩
set_option maxRecDepth 100000 in
theorem ld_J2_length_9d52b : aLd yJ2_length_9d52b 1 := ⟨by decide +kernel, by decide +kernel, by decide +kernel⟩
set_option maxRecDepth 100000 in
theorem lk_J2_48 : aLS RJ2 48 yJ2_length_9d52b cJ2_length_9d52b 1 (some .int) 1 := ⟨gm 568 rfl rfl, gm 569 rfl rfl, gm 131 rfl rfl, gm 570 rfl rfl, ld_J2_length_9d52b⟩
set_option maxRecDepth 100000 in
theorem ld_J2_checkIndex_2214a : aLd yJ2_checkIndex_2214a 2 := ⟨by decide +kernel, by decide +kernel, by decide +kernel⟩
set_option maxRecDepth 100000 in
theorem lk_J2_67 : aLS RJ2 67 yJ2_checkIndex_2214a cJ2_checkIndex_2214a 2 none 2 := ⟨gm 565 rfl rfl, gm 566 rfl rfl, gm 131 rfl rfl, gm 567 rfl rfl, ld_J2_checkIndex_2214a⟩
set_option maxRecDepth 100000 in
theorem ld_J2_getChar_3b067 : aLd yJ2_getChar_3b067 2 := ⟨by decide +kernel, by decide +kernel, by decide +kernel⟩
set_option maxRecDepth 100000 in
theorem lk_J2_71 : aLS RJ2 71 yJ2_getChar_3b067 cJ2_getChar_3b067 2 (some .char) 2 := ⟨gm 572 rfl rfl, gm 573 rfl rfl, gm 131 rfl rfl, gm 574 rfl rfl, ld_J2_getChar_3b067⟩
set_option maxRecDepth 100000 in
theorem lk_J2_414 : aLS RJ2 414 yJ0_checkIndex_df160 cJ0_checkIndex_df160 2 none 2 := ⟨gm 571 rfl rfl, gm 555 rfl rfl, gm 128 rfl rfl, gm 556 rfl rfl, ld_J0_checkIndex_df160⟩
set_option maxRecDepth 100000 in
theorem ld_X11_sleeper : aLd yX11_sleeper 2 := ⟨by decide +kernel, by decide +kernel, by decide +kernel⟩
set_option maxRecDepth 100000 in
theorem lk_L_7 : aLV RL 7 yX11_sleeper cX11_sleeper 3 (some .int) 2 := ⟨gm 1469 rfl rfl, gm 1470 rfl rfl, gm 1471 rfl rfl, gm 114 rfl rfl, gm 1472 rfl rfl, ld_X11_sleeper⟩
set_option maxRecDepth 100000 in
theorem ld_X11_init : aLd yX11_init 0 := ⟨by decide +kernel, by decide +kernel, by decide +kernel⟩
set_option maxRecDepth 100000 in
theorem lk_L_15 : aLI RL 15 yX11_init cX11_init 1 0 := ⟨gm 141 rfl rfl, gm 142 rfl rfl, gm 114 rfl rfl, gm 143 rfl rfl, ld_X11_init, rfl⟩
set_option maxRecDepth 100000 in
theorem ld_X12_init : aLd yX12_init 0 := ⟨by decide +kernel, by decide +kernel, by decide +kernel⟩
set_option maxRecDepth 100000 in
theorem lk_L_18 : aLI RL 18 yX12_init cX12_init 1 0 := ⟨gm 1547 rfl rfl, gm 1548 rfl rfl, gm 126 rfl rfl, gm 1549 rfl rfl, ld_X12_init, rfl⟩
set_option maxRecDepth 100000 in
theorem ld_X11_feed : aLd yX11_feed 5 := ⟨by decide +kernel, by decide +kernel, by decide +kernel⟩
set_option maxRecDepth 100000 in
theorem lk_L_19 : aLV RL 19 yX11_feed cX11_feed 7 (some .int) 5 := ⟨gm 478 rfl rfl, gm 479 rfl rfl, gm 480 rfl rfl, gm 114 rfl rfl, gm 481 rfl rfl, ld_X11_feed⟩
set_option maxRecDepth 100000 in
theorem ld_X12_feed : aLd yX12_feed 5 := ⟨by decide +kernel, by decide +kernel, by decide +kernel⟩
set_option maxRecDepth 100000 in
theorem lk_L_23 : aLV RL 23 yX12_feed cX12_feed 6 (some .int) 5 := ⟨gm 1732 rfl rfl, gm 1733 rfl rfl, gm 1734 rfl rfl, gm 126 rfl rfl, gm 1735 rfl rfl, ld_X12_feed⟩
set_option maxRecDepth 100000 in
theorem ld_X11_end : aLd yX11_end 1 := ⟨by decide +kernel, by decide +kernel, by decide +kernel⟩
set_option maxRecDepth 100000 in
theorem lk_L_24 : aLV RL 24 yX11_end cX11_end 2 (some .boolean) 1 := ⟨gm 493 rfl rfl, gm 494 rfl rfl, gm 495 rfl rfl, gm 114 rfl rfl, gm 496 rfl rfl, ld_X11_end⟩
set_option maxRecDepth 100000 in
theorem ld_X12_end : aLd yX12_end 1 := ⟨by decide +kernel, by decide +kernel, by decide +kernel⟩
set_option maxRecDepth 100000 in
theorem lk_L_28 : aLV RL 28 yX12_end cX12_end 2 (some .boolean) 1 := ⟨gm 1743 rfl rfl, gm 1744 rfl rfl, gm 1745 rfl rfl, gm 126 rfl rfl, gm 1746 rfl rfl, ld_X12_end⟩
set_option maxRecDepth 100000 in
theorem ld_X11_fault : aLd yX11_fault 1 := ⟨by decide +kernel, by decide +kernel, by decide +kernel⟩
set_option maxRecDepth 100000 in
theorem lk_L_29 : aLV RL 29 yX11_fault cX11_fault 2 (some .int) 1 := ⟨gm 501 rfl rfl, gm 502 rfl rfl, gm 503 rfl rfl, gm 114 rfl rfl, gm 504 rfl rfl, ld_X11_fault⟩
set_option maxRecDepth 100000 in
theorem ld_X12_fault : aLd yX12_fault 1 := ⟨by decide +kernel, by decide +kernel, by decide +kernel⟩
set_option maxRecDepth 100000 in
theorem lk_L_33 : aLV RL 33 yX12_fault cX12_fault 2 (some .int) 1 := ⟨gm 1747 rfl rfl, gm 1748 rfl rfl, gm 1749 rfl rfl, gm 126 rfl rfl, gm 1750 rfl rfl, ld_X12_fault⟩
set_option maxRecDepth 100000 in
theorem ld_X11_text : aLd yX11_text 1 := ⟨by decide +kernel, by decide +kernel, by decide +kernel⟩
set_option maxRecDepth 100000 in
theorem lk_L_34 : aLV RL 34 yX11_text cX11_text 3 (some .int) 1 := ⟨gm 707 rfl rfl, gm 708 rfl rfl, gm 709 rfl rfl, gm 114 rfl rfl, gm 710 rfl rfl, ld_X11_text⟩
set_option maxRecDepth 100000 in
theorem ld_X12_text : aLd yX12_text 1 := ⟨by decide +kernel, by decide +kernel, by decide +kernel⟩
set_option maxRecDepth 100000 in
theorem lk_L_37 : aLV RL 37 yX12_text cX12_text 4 (some .int) 1 := ⟨gm 1892 rfl rfl, gm 1893 rfl rfl, gm 1894 rfl rfl, gm 126 rfl rfl, gm 1895 rfl rfl, ld_X12_text⟩
set_option maxRecDepth 100000 in
theorem ld_X11_rule : aLd yX11_rule 1 := ⟨by decide +kernel, by decide +kernel, by decide +kernel⟩
set_option maxRecDepth 100000 in
theorem lk_L_38 : aLV RL 38 yX11_rule cX11_rule 2 (some .int) 1 := ⟨gm 752 rfl rfl, gm 753 rfl rfl, gm 754 rfl rfl, gm 114 rfl rfl, gm 755 rfl rfl, ld_X11_rule⟩
set_option maxRecDepth 100000 in
theorem ld_X12_rule : aLd yX12_rule 1 := ⟨by decide +kernel, by decide +kernel, by decide +kernel⟩
set_option maxRecDepth 100000 in
theorem lk_L_41 : aLV RL 41 yX12_rule cX12_rule 2 (some .int) 1 := ⟨gm 1897 rfl rfl, gm 1898 rfl rfl, gm 1899 rfl rfl, gm 126 rfl rfl, gm 1900 rfl rfl, ld_X12_rule⟩
set_option maxRecDepth 100000 in
theorem ld_X12_sleeper : aLd yX12_sleeper 2 := ⟨by decide +kernel, by decide +kernel, by decide +kernel⟩
set_option maxRecDepth 100000 in
theorem lk_L_47 : aLV RL 47 yX12_sleeper cX12_sleeper 3 (some .int) 2 := ⟨gm 1902 rfl rfl, gm 1903 rfl rfl, gm 1904 rfl rfl, gm 126 rfl rfl, gm 1905 rfl rfl, ld_X12_sleeper⟩
set_option maxRecDepth 100000 in
theorem ld_X12_thrown : aLd yX12_thrown 0 := ⟨by decide +kernel, by decide +kernel, by decide +kernel⟩
set_option maxRecDepth 100000 in
theorem lk_L_48 : aLV RL 48 yX12_thrown cX12_thrown 1 (some .int) 0 := ⟨gm 1728 rfl rfl, gm 1729 rfl rfl, gm 1730 rfl rfl, gm 126 rfl rfl, gm 1731 rfl rfl, ld_X12_thrown⟩
set_option maxRecDepth 100000 in
theorem ld_X11_officer : aLd yX11_officer 2 := ⟨by decide +kernel, by decide +kernel, by decide +kernel⟩
set_option maxRecDepth 100000 in
theorem lk_L_52 : aLV RL 52 yX11_officer cX11_officer 3 (some .int) 2 := ⟨gm 765 rfl rfl, gm 766 rfl rfl, gm 767 rfl rfl, gm 114 rfl rfl, gm 768 rfl rfl, ld_X11_officer⟩
set_option maxRecDepth 100000 in
theorem ld_X12_officer : aLd yX12_officer 2 := ⟨by decide +kernel, by decide +kernel, by decide +kernel⟩
set_option maxRecDepth 100000 in
theorem lk_L_55 : aLV RL 55 yX12_officer cX12_officer 3 (some .int) 2 := ⟨gm 1911 rfl rfl, gm 1912 rfl rfl, gm 1913 rfl rfl, gm 126 rfl rfl, gm 1914 rfl rfl, ld_X12_officer⟩
set_option maxRecDepth 100000 in
theorem ld_X11_law : aLd yX11_law 1 := ⟨by decide +kernel, by decide +kernel, by decide +kernel⟩
set_option maxRecDepth 100000 in
theorem lk_L_56 : aLV RL 56 yX11_law cX11_law 2 (some .boolean) 1 := ⟨gm 777 rfl rfl, gm 778 rfl rfl, gm 779 rfl rfl, gm 114 rfl rfl, gm 780 rfl rfl, ld_X11_law⟩
set_option maxRecDepth 100000 in
theorem ld_X12_law : aLd yX12_law 1 := ⟨by decide +kernel, by decide +kernel, by decide +kernel⟩
set_option maxRecDepth 100000 in
theorem lk_L_59 : aLV RL 59 yX12_law cX12_law 2 (some .boolean) 1 := ⟨gm 1919 rfl rfl, gm 1920 rfl rfl, gm 1921 rfl rfl, gm 126 rfl rfl, gm 1922 rfl rfl, ld_X12_law⟩
set_option maxRecDepth 100000 in
theorem ld_X11_drowsy : aLd yX11_drowsy 1 := ⟨by decide +kernel, by decide +kernel, by decide +kernel⟩
set_option maxRecDepth 100000 in
theorem lk_L_60 : aLV RL 60 yX11_drowsy cX11_drowsy 2 (some .boolean) 1 := ⟨gm 793 rfl rfl, gm 794 rfl rfl, gm 795 rfl rfl, gm 114 rfl rfl, gm 796 rfl rfl, ld_X11_drowsy⟩
set_option maxRecDepth 100000 in
theorem ld_X12_drowsy : aLd yX12_drowsy 1 := ⟨by decide +kernel, by decide +kernel, by decide +kernel⟩
set_option maxRecDepth 100000 in
theorem lk_L_63 : aLV RL 63 yX12_drowsy cX12_drowsy 2 (some .boolean) 1 := ⟨gm 1923 rfl rfl, gm 1924 rfl rfl, gm 1925 rfl rfl, gm 126 rfl rfl, gm 1926 rfl rfl, ld_X12_drowsy⟩
set_option maxRecDepth 100000 in
theorem ld_X11_move : aLd yX11_move 2 := ⟨by decide +kernel, by decide +kernel, by decide +kernel⟩
set_option maxRecDepth 100000 in
theorem lk_L_64 : aLV RL 64 yX11_move cX11_move 3 (some .int) 2 := ⟨gm 797 rfl rfl, gm 798 rfl rfl, gm 799 rfl rfl, gm 114 rfl rfl, gm 800 rfl rfl, ld_X11_move⟩
set_option maxRecDepth 100000 in
theorem ld_X12_move : aLd yX12_move 2 := ⟨by decide +kernel, by decide +kernel, by decide +kernel⟩
set_option maxRecDepth 100000 in
theorem lk_L_67 : aLV RL 67 yX12_move cX12_move 4 (some .int) 2 := ⟨gm 1928 rfl rfl, gm 1929 rfl rfl, gm 1930 rfl rfl, gm 126 rfl rfl, gm 1931 rfl rfl, ld_X12_move⟩
set_option maxRecDepth 100000 in
theorem ld_X11_say : aLd yX11_say 2 := ⟨by decide +kernel, by decide +kernel, by decide +kernel⟩
set_option maxRecDepth 100000 in
theorem lk_L_68 : aLV RL 68 yX11_say cX11_say 3 (some .int) 2 := ⟨gm 1016 rfl rfl, gm 1017 rfl rfl, gm 1018 rfl rfl, gm 114 rfl rfl, gm 1019 rfl rfl, ld_X11_say⟩
set_option maxRecDepth 100000 in
theorem ld_X12_say : aLd yX12_say 2 := ⟨by decide +kernel, by decide +kernel, by decide +kernel⟩
set_option maxRecDepth 100000 in
theorem lk_L_71 : aLV RL 71 yX12_say cX12_say 4 (some .int) 2 := ⟨gm 1948 rfl rfl, gm 1949 rfl rfl, gm 1950 rfl rfl, gm 126 rfl rfl, gm 1951 rfl rfl, ld_X12_say⟩
set_option maxRecDepth 100000 in
theorem ld_X11_wake : aLd yX11_wake 1 := ⟨by decide +kernel, by decide +kernel, by decide +kernel⟩
set_option maxRecDepth 100000 in
theorem lk_L_72 : aLV RL 72 yX11_wake cX11_wake 2 (some .int) 1 := ⟨gm 1020 rfl rfl, gm 1021 rfl rfl, gm 1022 rfl rfl, gm 114 rfl rfl, gm 1023 rfl rfl, ld_X11_wake⟩
set_option maxRecDepth 100000 in
theorem ld_X12_wake : aLd yX12_wake 1 := ⟨by decide +kernel, by decide +kernel, by decide +kernel⟩
set_option maxRecDepth 100000 in
theorem lk_L_75 : aLV RL 75 yX12_wake cX12_wake 2 (some .int) 1 := ⟨gm 1956 rfl rfl, gm 1957 rfl rfl, gm 1958 rfl rfl, gm 126 rfl rfl, gm 1959 rfl rfl, ld_X12_wake⟩
set_option maxRecDepth 100000 in
theorem ld_X11_lie : aLd yX11_lie 1 := ⟨by decide +kernel, by decide +kernel, by decide +kernel⟩
set_option maxRecDepth 100000 in
theorem lk_L_76 : aLV RL 76 yX11_lie cX11_lie 2 (some .int) 1 := ⟨gm 1024 rfl rfl, gm 1025 rfl rfl, gm 1026 rfl rfl, gm 114 rfl rfl, gm 1027 rfl rfl, ld_X11_lie⟩
set_option maxRecDepth 100000 in
theorem ld_X12_lie : aLd yX12_lie 1 := ⟨by decide +kernel, by decide +kernel, by decide +kernel⟩
set_option maxRecDepth 100000 in
theorem lk_L_79 : aLV RL 79 yX12_lie cX12_lie 2 (some .int) 1 := ⟨gm 1982 rfl rfl, gm 1983 rfl rfl, gm 1984 rfl rfl, gm 126 rfl rfl, gm 1985 rfl rfl, ld_X12_lie⟩
set_option maxRecDepth 100000 in
theorem ld_X11_swap : aLd yX11_swap 2 := ⟨by decide +kernel, by decide +kernel, by decide +kernel⟩
set_option maxRecDepth 100000 in
theorem lk_L_80 : aLV RL 80 yX11_swap cX11_swap 3 (some .int) 2 := ⟨gm 1028 rfl rfl, gm 1029 rfl rfl, gm 1030 rfl rfl, gm 114 rfl rfl, gm 1031 rfl rfl, ld_X11_swap⟩
set_option maxRecDepth 100000 in
theorem ld_X12_swap : aLd yX12_swap 2 := ⟨by decide +kernel, by decide +kernel, by decide +kernel⟩
set_option maxRecDepth 100000 in
theorem lk_L_83 : aLV RL 83 yX12_swap cX12_swap 3 (some .int) 2 := ⟨gm 1994 rfl rfl, gm 1995 rfl rfl, gm 1996 rfl rfl, gm 126 rfl rfl, gm 1997 rfl rfl, ld_X12_swap⟩
set_option maxRecDepth 100000 in
theorem ld_X11_border : aLd yX11_border 1 := ⟨by decide +kernel, by decide +kernel, by decide +kernel⟩
set_option maxRecDepth 100000 in
theorem lk_L_84 : aLV RL 84 yX11_border cX11_border 2 (some .int) 1 := ⟨gm 1036 rfl rfl, gm 1037 rfl rfl, gm 1038 rfl rfl, gm 114 rfl rfl, gm 1039 rfl rfl, ld_X11_border⟩
set_option maxRecDepth 100000 in
theorem ld_X12_border : aLd yX12_border 1 := ⟨by decide +kernel, by decide +kernel, by decide +kernel⟩
set_option maxRecDepth 100000 in
theorem lk_L_87 : aLV RL 87 yX12_border cX12_border 2 (some .int) 1 := ⟨gm 2005 rfl rfl, gm 2006 rfl rfl, gm 2007 rfl rfl, gm 126 rfl rfl, gm 2008 rfl rfl, ld_X12_border⟩
set_option maxRecDepth 100000 in
theorem ld_X11_nights : aLd yX11_nights 2 := ⟨by decide +kernel, by decide +kernel, by decide +kernel⟩
set_option maxRecDepth 100000 in
theorem lk_L_90 : aLV RL 90 yX11_nights cX11_nights 5 (some .int) 2 := ⟨gm 1040 rfl rfl, gm 1041 rfl rfl, gm 1042 rfl rfl, gm 114 rfl rfl, gm 1043 rfl rfl, ld_X11_nights⟩
set_option maxRecDepth 100000 in
theorem ld_X12_nights : aLd yX12_nights 2 := ⟨by decide +kernel, by decide +kernel, by decide +kernel⟩
set_option maxRecDepth 100000 in
theorem lk_L_94 : aLV RL 94 yX12_nights cX12_nights 6 (some .int) 2 := ⟨gm 2033 rfl rfl, gm 2034 rfl rfl, gm 2035 rfl rfl, gm 126 rfl rfl, gm 2036 rfl rfl, ld_X12_nights⟩
set_option maxRecDepth 100000 in
theorem ld_X11_undo : aLd yX11_undo 0 := ⟨by decide +kernel, by decide +kernel, by decide +kernel⟩
set_option maxRecDepth 100000 in
theorem lk_L_95 : aLV RL 95 yX11_undo cX11_undo 1 (some .int) 0 := ⟨gm 1073 rfl rfl, gm 1074 rfl rfl, gm 1075 rfl rfl, gm 114 rfl rfl, gm 1076 rfl rfl, ld_X11_undo⟩
set_option maxRecDepth 100000 in
theorem ld_X12_undo : aLd yX12_undo 0 := ⟨by decide +kernel, by decide +kernel, by decide +kernel⟩
set_option maxRecDepth 100000 in
theorem lk_L_98 : aLV RL 98 yX12_undo cX12_undo 2 (some .int) 0 := ⟨gm 2052 rfl rfl, gm 2053 rfl rfl, gm 2054 rfl rfl, gm 126 rfl rfl, gm 2055 rfl rfl, ld_X12_undo⟩
set_option maxRecDepth 100000 in
theorem ld_X11_log : aLd yX11_log 2 := ⟨by decide +kernel, by decide +kernel, by decide +kernel⟩
set_option maxRecDepth 100000 in
theorem lk_L_99 : aLV RL 99 yX11_log cX11_log 3 (some .int) 2 := ⟨gm 1085 rfl rfl, gm 1086 rfl rfl, gm 1087 rfl rfl, gm 114 rfl rfl, gm 1088 rfl rfl, ld_X11_log⟩
set_option maxRecDepth 100000 in
theorem ld_X12_log : aLd yX12_log 2 := ⟨by decide +kernel, by decide +kernel, by decide +kernel⟩
set_option maxRecDepth 100000 in
theorem lk_L_102 : aLV RL 102 yX12_log cX12_log 3 (some .int) 2 := ⟨gm 2056 rfl rfl, gm 2057 rfl rfl, gm 2058 rfl rfl, gm 126 rfl rfl, gm 2059 rfl rfl, ld_X12_log⟩
set_option maxRecDepth 100000 in
theorem ld_X11_step : aLd yX11_step 3 := ⟨by decide +kernel, by decide +kernel, by decide +kernel⟩
set_option maxRecDepth 100000 in
theorem lk_L_103 : aLV RL 103 yX11_step cX11_step 5 (some .int) 3 := ⟨gm 1093 rfl rfl, gm 1094 rfl rfl, gm 1095 rfl rfl, gm 114 rfl rfl, gm 1096 rfl rfl, ld_X11_step⟩
set_option maxRecDepth 100000 in
theorem ld_X12_step : aLd yX12_step 3 := ⟨by decide +kernel, by decide +kernel, by decide +kernel⟩
set_option maxRecDepth 100000 in
theorem lk_L_107 : aLV RL 107 yX12_step cX12_step 4 (some .int) 3 := ⟨gm 2060 rfl rfl, gm 2061 rfl rfl, gm 2062 rfl rfl, gm 126 rfl rfl, gm 2063 rfl rfl, ld_X12_step⟩
set_option maxRecDepth 100000 in
theorem ld_X11_run : aLd yX11_run 2 := ⟨by decide +kernel, by decide +kernel, by decide +kernel⟩
set_option maxRecDepth 100000 in
theorem lk_L_108 : aLV RL 108 yX11_run cX11_run 5 (some .int) 2 := ⟨gm 1110 rfl rfl, gm 1111 rfl rfl, gm 1112 rfl rfl, gm 114 rfl rfl, gm 1113 rfl rfl, ld_X11_run⟩
set_option maxRecDepth 100000 in
theorem ld_X12_run : aLd yX12_run 2 := ⟨by decide +kernel, by decide +kernel, by decide +kernel⟩
set_option maxRecDepth 100000 in
theorem lk_L_111 : aLV RL 111 yX12_run cX12_run 4 (some .int) 2 := ⟨gm 2069 rfl rfl, gm 2070 rfl rfl, gm 2071 rfl rfl, gm 126 rfl rfl, gm 2072 rfl rfl, ld_X12_run⟩
set_option maxRecDepth 100000 in
theorem ld_X11_perform : aLd yX11_perform 1 := ⟨by decide +kernel, by decide +kernel, by decide +kernel⟩
set_option maxRecDepth 100000 in
theorem lk_L_112 : aLV RL 112 yX11_perform cX11_perform 4 (some .int) 1 := ⟨gm 1122 rfl rfl, gm 1123 rfl rfl, gm 1124 rfl rfl, gm 114 rfl rfl, gm 1125 rfl rfl, ld_X11_perform⟩
set_option maxRecDepth 100000 in
theorem ld_X12_perform : aLd yX12_perform 1 := ⟨by decide +kernel, by decide +kernel, by decide +kernel⟩
set_option maxRecDepth 100000 in
theorem lk_L_115 : aLV RL 115 yX12_perform cX12_perform 3 (some .int) 1 := ⟨gm 2088 rfl rfl, gm 2089 rfl rfl, gm 2090 rfl rfl, gm 126 rfl rfl, gm 2091 rfl rfl, ld_X12_perform⟩
set_option maxRecDepth 100000 in
theorem ld_X11_time : aLd yX11_time 2 := ⟨by decide +kernel, by decide +kernel, by decide +kernel⟩
set_option maxRecDepth 100000 in
theorem lk_L_116 : aLV RL 116 yX11_time cX11_time 4 (some .int) 2 := ⟨gm 1126 rfl rfl, gm 1127 rfl rfl, gm 1128 rfl rfl, gm 114 rfl rfl, gm 1129 rfl rfl, ld_X11_time⟩
set_option maxRecDepth 100000 in
theorem ld_X12_time : aLd yX12_time 2 := ⟨by decide +kernel, by decide +kernel, by decide +kernel⟩
set_option maxRecDepth 100000 in
theorem lk_L_119 : aLV RL 119 yX12_time cX12_time 3 (some .int) 2 := ⟨gm 2092 rfl rfl, gm 2093 rfl rfl, gm 2094 rfl rfl, gm 126 rfl rfl, gm 2095 rfl rfl, ld_X12_time⟩
set_option maxRecDepth 100000 in
theorem ld_X11_order : aLd yX11_order 2 := ⟨by decide +kernel, by decide +kernel, by decide +kernel⟩
set_option maxRecDepth 100000 in
theorem lk_L_120 : aLV RL 120 yX11_order cX11_order 3 (some .int) 2 := ⟨gm 1130 rfl rfl, gm 1131 rfl rfl, gm 1132 rfl rfl, gm 114 rfl rfl, gm 1133 rfl rfl, ld_X11_order⟩
set_option maxRecDepth 100000 in
theorem ld_X12_order : aLd yX12_order 2 := ⟨by decide +kernel, by decide +kernel, by decide +kernel⟩
set_option maxRecDepth 100000 in
theorem lk_L_123 : aLV RL 123 yX12_order cX12_order 3 (some .int) 2 := ⟨gm 2100 rfl rfl, gm 2101 rfl rfl, gm 2102 rfl rfl, gm 126 rfl rfl, gm 2103 rfl rfl, ld_X12_order⟩
set_option maxRecDepth 100000 in
theorem ld_X11_bound : aLd yX11_bound 1 := ⟨by decide +kernel, by decide +kernel, by decide +kernel⟩
set_option maxRecDepth 100000 in
theorem lk_L_124 : aLV RL 124 yX11_bound cX11_bound 2 (some .int) 1 := ⟨gm 1171 rfl rfl, gm 1172 rfl rfl, gm 1173 rfl rfl, gm 114 rfl rfl, gm 1174 rfl rfl, ld_X11_bound⟩
set_option maxRecDepth 100000 in
theorem ld_X12_bound : aLd yX12_bound 1 := ⟨by decide +kernel, by decide +kernel, by decide +kernel⟩
set_option maxRecDepth 100000 in
theorem lk_L_127 : aLV RL 127 yX12_bound cX12_bound 5 (some .int) 1 := ⟨gm 2112 rfl rfl, gm 2113 rfl rfl, gm 2114 rfl rfl, gm 126 rfl rfl, gm 2115 rfl rfl, ld_X12_bound⟩
set_option maxRecDepth 100000 in
theorem ld_X11_before : aLd yX11_before 1 := ⟨by decide +kernel, by decide +kernel, by decide +kernel⟩
set_option maxRecDepth 100000 in
theorem lk_L_128 : aLV RL 128 yX11_before cX11_before 2 (some .int) 1 := ⟨gm 1181 rfl rfl, gm 1182 rfl rfl, gm 1183 rfl rfl, gm 114 rfl rfl, gm 1184 rfl rfl, ld_X11_before⟩
set_option maxRecDepth 100000 in
theorem ld_X12_before : aLd yX12_before 1 := ⟨by decide +kernel, by decide +kernel, by decide +kernel⟩
set_option maxRecDepth 100000 in
theorem lk_L_131 : aLV RL 131 yX12_before cX12_before 7 (some .int) 1 := ⟨gm 2116 rfl rfl, gm 2117 rfl rfl, gm 2118 rfl rfl, gm 126 rfl rfl, gm 2119 rfl rfl, ld_X12_before⟩
set_option maxRecDepth 100000 in
theorem ld_X11_words : aLd yX11_words 1 := ⟨by decide +kernel, by decide +kernel, by decide +kernel⟩
set_option maxRecDepth 100000 in
theorem lk_L_132 : aLV RL 132 yX11_words cX11_words 2 (some .int) 1 := ⟨gm 1234 rfl rfl, gm 1235 rfl rfl, gm 1236 rfl rfl, gm 114 rfl rfl, gm 1237 rfl rfl, ld_X11_words⟩
set_option maxRecDepth 100000 in
theorem ld_X12_words : aLd yX12_words 1 := ⟨by decide +kernel, by decide +kernel, by decide +kernel⟩
set_option maxRecDepth 100000 in
theorem lk_L_135 : aLV RL 135 yX12_words cX12_words 11 (some .int) 1 := ⟨gm 2124 rfl rfl, gm 2125 rfl rfl, gm 2126 rfl rfl, gm 126 rfl rfl, gm 2127 rfl rfl, ld_X12_words⟩
set_option maxRecDepth 100000 in
theorem ld_X11_tonight : aLd yX11_tonight 1 := ⟨by decide +kernel, by decide +kernel, by decide +kernel⟩
set_option maxRecDepth 100000 in
theorem lk_L_136 : aLV RL 136 yX11_tonight cX11_tonight 2 (some .int) 1 := ⟨gm 1277 rfl rfl, gm 1278 rfl rfl, gm 1279 rfl rfl, gm 114 rfl rfl, gm 1280 rfl rfl, ld_X11_tonight⟩
set_option maxRecDepth 100000 in
theorem ld_X12_tonight : aLd yX12_tonight 1 := ⟨by decide +kernel, by decide +kernel, by decide +kernel⟩
set_option maxRecDepth 100000 in
theorem lk_L_139 : aLV RL 139 yX12_tonight cX12_tonight 4 (some .int) 1 := ⟨gm 2133 rfl rfl, gm 2134 rfl rfl, gm 2135 rfl rfl, gm 126 rfl rfl, gm 2136 rfl rfl, ld_X12_tonight⟩
set_option maxRecDepth 100000 in
theorem ld_X11_hear : aLd yX11_hear 2 := ⟨by decide +kernel, by decide +kernel, by decide +kernel⟩
set_option maxRecDepth 100000 in
theorem lk_L_140 : aLV RL 140 yX11_hear cX11_hear 3 (some .int) 2 := ⟨gm 1294 rfl rfl, gm 1295 rfl rfl, gm 1296 rfl rfl, gm 114 rfl rfl, gm 1297 rfl rfl, ld_X11_hear⟩
set_option maxRecDepth 100000 in
theorem ld_X12_hear : aLd yX12_hear 2 := ⟨by decide +kernel, by decide +kernel, by decide +kernel⟩
set_option maxRecDepth 100000 in
theorem lk_L_144 : aLV RL 144 yX12_hear cX12_hear 3 (some .int) 2 := ⟨gm 2128 rfl rfl, gm 2129 rfl rfl, gm 2130 rfl rfl, gm 126 rfl rfl, gm 2131 rfl rfl, ld_X12_hear⟩
set_option maxRecDepth 100000 in
theorem ld_X11_lookAt : aLd yX11_lookAt 2 := ⟨by decide +kernel, by decide +kernel, by decide +kernel⟩
set_option maxRecDepth 100000 in
theorem lk_L_145 : aLV RL 145 yX11_lookAt cX11_lookAt 3 (some .int) 2 := ⟨gm 1302 rfl rfl, gm 1303 rfl rfl, gm 1304 rfl rfl, gm 114 rfl rfl, gm 1305 rfl rfl, ld_X11_lookAt⟩
set_option maxRecDepth 100000 in
theorem ld_X12_lookAt : aLd yX12_lookAt 2 := ⟨by decide +kernel, by decide +kernel, by decide +kernel⟩
set_option maxRecDepth 100000 in
theorem lk_L_149 : aLV RL 149 yX12_lookAt cX12_lookAt 3 (some .int) 2 := ⟨gm 2142 rfl rfl, gm 2143 rfl rfl, gm 2144 rfl rfl, gm 126 rfl rfl, gm 2145 rfl rfl, ld_X12_lookAt⟩
set_option maxRecDepth 100000 in
theorem ld_X11_fit : aLd yX11_fit 1 := ⟨by decide +kernel, by decide +kernel, by decide +kernel⟩
set_option maxRecDepth 100000 in
theorem lk_L_150 : aLV RL 150 yX11_fit cX11_fit 2 (some .int) 1 := ⟨gm 1311 rfl rfl, gm 1312 rfl rfl, gm 1313 rfl rfl, gm 114 rfl rfl, gm 1314 rfl rfl, ld_X11_fit⟩
set_option maxRecDepth 100000 in
theorem ld_X12_fit : aLd yX12_fit 1 := ⟨by decide +kernel, by decide +kernel, by decide +kernel⟩
set_option maxRecDepth 100000 in
theorem lk_L_153 : aLV RL 153 yX12_fit cX12_fit 5 (some .int) 1 := ⟨gm 2146 rfl rfl, gm 2147 rfl rfl, gm 2148 rfl rfl, gm 126 rfl rfl, gm 2149 rfl rfl, ld_X12_fit⟩
set_option maxRecDepth 100000 in
theorem ld_X11_best : aLd yX11_best 0 := ⟨by decide +kernel, by decide +kernel, by decide +kernel⟩
set_option maxRecDepth 100000 in
theorem lk_L_154 : aLV RL 154 yX11_best cX11_best 1 (some .int) 0 := ⟨gm 1325 rfl rfl, gm 1326 rfl rfl, gm 1327 rfl rfl, gm 114 rfl rfl, gm 1328 rfl rfl, ld_X11_best⟩
set_option maxRecDepth 100000 in
theorem ld_X12_best : aLd yX12_best 0 := ⟨by decide +kernel, by decide +kernel, by decide +kernel⟩
set_option maxRecDepth 100000 in
theorem lk_L_157 : aLV RL 157 yX12_best cX12_best 7 (some .int) 0 := ⟨gm 2158 rfl rfl, gm 2159 rfl rfl, gm 2160 rfl rfl, gm 126 rfl rfl, gm 2161 rfl rfl, ld_X12_best⟩
set_option maxRecDepth 100000 in
theorem ld_X11_heads : aLd yX11_heads 2 := ⟨by decide +kernel, by decide +kernel, by decide +kernel⟩
set_option maxRecDepth 100000 in
theorem lk_L_158 : aLV RL 158 yX11_heads cX11_heads 3 (some .int) 2 := ⟨gm 1339 rfl rfl, gm 1340 rfl rfl, gm 1341 rfl rfl, gm 114 rfl rfl, gm 1342 rfl rfl, ld_X11_heads⟩
set_option maxRecDepth 100000 in
theorem ld_X12_heads : aLd yX12_heads 2 := ⟨by decide +kernel, by decide +kernel, by decide +kernel⟩
set_option maxRecDepth 100000 in
theorem lk_L_161 : aLV RL 161 yX12_heads cX12_heads 6 (some .int) 2 := ⟨gm 2164 rfl rfl, gm 2165 rfl rfl, gm 2166 rfl rfl, gm 126 rfl rfl, gm 2167 rfl rfl, ld_X12_heads⟩
set_option maxRecDepth 100000 in
theorem ld_X11_give : aLd yX11_give 1 := ⟨by decide +kernel, by decide +kernel, by decide +kernel⟩
set_option maxRecDepth 100000 in
theorem lk_L_162 : aLV RL 162 yX11_give cX11_give 2 (some .int) 1 := ⟨gm 1350 rfl rfl, gm 1351 rfl rfl, gm 1352 rfl rfl, gm 114 rfl rfl, gm 1353 rfl rfl, ld_X11_give⟩
set_option maxRecDepth 100000 in
theorem ld_X12_give : aLd yX12_give 1 := ⟨by decide +kernel, by decide +kernel, by decide +kernel⟩
set_option maxRecDepth 100000 in
theorem lk_L_165 : aLV RL 165 yX12_give cX12_give 2 (some .int) 1 := ⟨gm 2170 rfl rfl, gm 2171 rfl rfl, gm 2172 rfl rfl, gm 126 rfl rfl, gm 2173 rfl rfl, ld_X12_give⟩
set_option maxRecDepth 100000 in
theorem ld_X11_between : aLd yX11_between 0 := ⟨by decide +kernel, by decide +kernel, by decide +kernel⟩
set_option maxRecDepth 100000 in
theorem lk_L_166 : aLV RL 166 yX11_between cX11_between 3 (some .int) 0 := ⟨gm 1367 rfl rfl, gm 1368 rfl rfl, gm 1369 rfl rfl, gm 114 rfl rfl, gm 1370 rfl rfl, ld_X11_between⟩
set_option maxRecDepth 100000 in
theorem ld_X12_between : aLd yX12_between 0 := ⟨by decide +kernel, by decide +kernel, by decide +kernel⟩
set_option maxRecDepth 100000 in
theorem lk_L_169 : aLV RL 169 yX12_between cX12_between 3 (some .int) 0 := ⟨gm 2182 rfl rfl, gm 2183 rfl rfl, gm 2184 rfl rfl, gm 126 rfl rfl, gm 2185 rfl rfl, ld_X12_between⟩
set_option maxRecDepth 100000 in
theorem ld_X11_favour : aLd yX11_favour 5 := ⟨by decide +kernel, by decide +kernel, by decide +kernel⟩
set_option maxRecDepth 100000 in
theorem lk_L_170 : aLV RL 170 yX11_favour cX11_favour 7 (some .int) 5 := ⟨gm 1372 rfl rfl, gm 1373 rfl rfl, gm 1374 rfl rfl, gm 114 rfl rfl, gm 1375 rfl rfl, ld_X11_favour⟩
set_option maxRecDepth 100000 in
theorem ld_X12_favour : aLd yX12_favour 5 := ⟨by decide +kernel, by decide +kernel, by decide +kernel⟩
set_option maxRecDepth 100000 in
theorem lk_L_173 : aLV RL 173 yX12_favour cX12_favour 6 (some .int) 5 := ⟨gm 2186 rfl rfl, gm 2187 rfl rfl, gm 2188 rfl rfl, gm 126 rfl rfl, gm 2189 rfl rfl, ld_X12_favour⟩
set_option maxRecDepth 100000 in
theorem ld_X11_rests : aLd yX11_rests 3 := ⟨by decide +kernel, by decide +kernel, by decide +kernel⟩
set_option maxRecDepth 100000 in
theorem lk_L_174 : aLV RL 174 yX11_rests cX11_rests 8 (some .int) 3 := ⟨gm 1387 rfl rfl, gm 1388 rfl rfl, gm 1389 rfl rfl, gm 114 rfl rfl, gm 1390 rfl rfl, ld_X11_rests⟩
set_option maxRecDepth 100000 in
theorem ld_X12_rests : aLd yX12_rests 3 := ⟨by decide +kernel, by decide +kernel, by decide +kernel⟩
set_option maxRecDepth 100000 in
theorem lk_L_177 : aLV RL 177 yX12_rests cX12_rests 8 (some .int) 3 := ⟨gm 2194 rfl rfl, gm 2195 rfl rfl, gm 2196 rfl rfl, gm 126 rfl rfl, gm 2197 rfl rfl, ld_X12_rests⟩
set_option maxRecDepth 100000 in
theorem ld_X11_which : aLd yX11_which 1 := ⟨by decide +kernel, by decide +kernel, by decide +kernel⟩
set_option maxRecDepth 100000 in
theorem lk_L_178 : aLV RL 178 yX11_which cX11_which 2 (some .int) 1 := ⟨gm 1391 rfl rfl, gm 1392 rfl rfl, gm 1393 rfl rfl, gm 114 rfl rfl, gm 1394 rfl rfl, ld_X11_which⟩
set_option maxRecDepth 100000 in
theorem ld_X12_which : aLd yX12_which 1 := ⟨by decide +kernel, by decide +kernel, by decide +kernel⟩
set_option maxRecDepth 100000 in
theorem lk_L_181 : aLV RL 181 yX12_which cX12_which 5 (some .int) 1 := ⟨gm 2198 rfl rfl, gm 2199 rfl rfl, gm 2200 rfl rfl, gm 126 rfl rfl, gm 2201 rfl rfl, ld_X12_which⟩
set_option maxRecDepth 100000 in
theorem ld_X11_woken : aLd yX11_woken 1 := ⟨by decide +kernel, by decide +kernel, by decide +kernel⟩
set_option maxRecDepth 100000 in
theorem lk_L_182 : aLV RL 182 yX11_woken cX11_woken 2 (some .int) 1 := ⟨gm 1401 rfl rfl, gm 1402 rfl rfl, gm 1403 rfl rfl, gm 114 rfl rfl, gm 1404 rfl rfl, ld_X11_woken⟩
set_option maxRecDepth 100000 in
theorem ld_X12_woken : aLd yX12_woken 1 := ⟨by decide +kernel, by decide +kernel, by decide +kernel⟩
set_option maxRecDepth 100000 in
theorem lk_L_185 : aLV RL 185 yX12_woken cX12_woken 2 (some .int) 1 := ⟨gm 2202 rfl rfl, gm 2203 rfl rfl, gm 2204 rfl rfl, gm 126 rfl rfl, gm 2205 rfl rfl, ld_X12_woken⟩
set_option maxRecDepth 100000 in
theorem ld_X11_tired : aLd yX11_tired 0 := ⟨by decide +kernel, by decide +kernel, by decide +kernel⟩
set_option maxRecDepth 100000 in
theorem lk_L_186 : aLV RL 186 yX11_tired cX11_tired 4 (some .int) 0 := ⟨gm 1406 rfl rfl, gm 1407 rfl rfl, gm 1408 rfl rfl, gm 114 rfl rfl, gm 1409 rfl rfl, ld_X11_tired⟩
set_option maxRecDepth 100000 in
theorem ld_X12_tired : aLd yX12_tired 0 := ⟨by decide +kernel, by decide +kernel, by decide +kernel⟩
set_option maxRecDepth 100000 in
theorem lk_L_189 : aLV RL 189 yX12_tired cX12_tired 3 (some .int) 0 := ⟨gm 2206 rfl rfl, gm 2207 rfl rfl, gm 2208 rfl rfl, gm 126 rfl rfl, gm 2209 rfl rfl, ld_X12_tired⟩
set_option maxRecDepth 100000 in
theorem ld_X11_beside : aLd yX11_beside 1 := ⟨by decide +kernel, by decide +kernel, by decide +kernel⟩
set_option maxRecDepth 100000 in
theorem lk_L_190 : aLV RL 190 yX11_beside cX11_beside 4 (some .int) 1 := ⟨gm 1414 rfl rfl, gm 1415 rfl rfl, gm 1416 rfl rfl, gm 114 rfl rfl, gm 1417 rfl rfl, ld_X11_beside⟩
set_option maxRecDepth 100000 in
theorem ld_X12_beside : aLd yX12_beside 1 := ⟨by decide +kernel, by decide +kernel, by decide +kernel⟩
set_option maxRecDepth 100000 in
theorem lk_L_193 : aLV RL 193 yX12_beside cX12_beside 4 (some .int) 1 := ⟨gm 2210 rfl rfl, gm 2211 rfl rfl, gm 2212 rfl rfl, gm 126 rfl rfl, gm 2213 rfl rfl, ld_X12_beside⟩
set_option maxRecDepth 100000 in
theorem ld_X11_slack : aLd yX11_slack 1 := ⟨by decide +kernel, by decide +kernel, by decide +kernel⟩
set_option maxRecDepth 100000 in
theorem lk_L_194 : aLV RL 194 yX11_slack cX11_slack 2 (some .int) 1 := ⟨gm 1419 rfl rfl, gm 1420 rfl rfl, gm 1421 rfl rfl, gm 114 rfl rfl, gm 1422 rfl rfl, ld_X11_slack⟩
set_option maxRecDepth 100000 in
theorem ld_X12_slack : aLd yX12_slack 1 := ⟨by decide +kernel, by decide +kernel, by decide +kernel⟩
set_option maxRecDepth 100000 in
theorem lk_L_197 : aLV RL 197 yX12_slack cX12_slack 2 (some .int) 1 := ⟨gm 2214 rfl rfl, gm 2215 rfl rfl, gm 2216 rfl rfl, gm 126 rfl rfl, gm 2217 rfl rfl, ld_X12_slack⟩
set_option maxRecDepth 100000 in
theorem ld_X11_longest : aLd yX11_longest 1 := ⟨by decide +kernel, by decide +kernel, by decide +kernel⟩
set_option maxRecDepth 100000 in
theorem lk_L_198 : aLV RL 198 yX11_longest cX11_longest 2 (some .int) 1 := ⟨gm 1423 rfl rfl, gm 1424 rfl rfl, gm 1425 rfl rfl, gm 114 rfl rfl, gm 1426 rfl rfl, ld_X11_longest⟩
set_option maxRecDepth 100000 in
theorem ld_X12_longest : aLd yX12_longest 1 := ⟨by decide +kernel, by decide +kernel, by decide +kernel⟩
set_option maxRecDepth 100000 in
theorem lk_L_201 : aLV RL 201 yX12_longest cX12_longest 2 (some .int) 1 := ⟨gm 2218 rfl rfl, gm 2219 rfl rfl, gm 2220 rfl rfl, gm 126 rfl rfl, gm 2221 rfl rfl, ld_X12_longest⟩
set_option maxRecDepth 100000 in
theorem ld_X11_image : aLd yX11_image 0 := ⟨by decide +kernel, by decide +kernel, by decide +kernel⟩
set_option maxRecDepth 100000 in
theorem lk_L_202 : aLV RL 202 yX11_image cX11_image 1 (some .int) 0 := ⟨gm 1431 rfl rfl, gm 1432 rfl rfl, gm 1433 rfl rfl, gm 114 rfl rfl, gm 1434 rfl rfl, ld_X11_image⟩
set_option maxRecDepth 100000 in
theorem ld_X12_image : aLd yX12_image 0 := ⟨by decide +kernel, by decide +kernel, by decide +kernel⟩
set_option maxRecDepth 100000 in
theorem lk_L_205 : aLV RL 205 yX12_image cX12_image 1 (some .int) 0 := ⟨gm 2222 rfl rfl, gm 2223 rfl rfl, gm 2224 rfl rfl, gm 126 rfl rfl, gm 2225 rfl rfl, ld_X12_image⟩
set_option maxRecDepth 100000 in
theorem ld_X11_back : aLd yX11_back 0 := ⟨by decide +kernel, by decide +kernel, by decide +kernel⟩
set_option maxRecDepth 100000 in
theorem lk_L_206 : aLV RL 206 yX11_back cX11_back 1 (some .int) 0 := ⟨gm 1441 rfl rfl, gm 1442 rfl rfl, gm 1443 rfl rfl, gm 114 rfl rfl, gm 1444 rfl rfl, ld_X11_back⟩
set_option maxRecDepth 100000 in
theorem ld_X12_back : aLd yX12_back 0 := ⟨by decide +kernel, by decide +kernel, by decide +kernel⟩
set_option maxRecDepth 100000 in
theorem lk_L_209 : aLV RL 209 yX12_back cX12_back 1 (some .int) 0 := ⟨gm 2226 rfl rfl, gm 2227 rfl rfl, gm 2228 rfl rfl, gm 126 rfl rfl, gm 2229 rfl rfl, ld_X12_back⟩
set_option maxRecDepth 100000 in
theorem ld_X11_count : aLd yX11_count 1 := ⟨by decide +kernel, by decide +kernel, by decide +kernel⟩
set_option maxRecDepth 100000 in
theorem lk_L_210 : aLV RL 210 yX11_count cX11_count 2 (some .int) 1 := ⟨gm 1449 rfl rfl, gm 1450 rfl rfl, gm 1451 rfl rfl, gm 114 rfl rfl, gm 1452 rfl rfl, ld_X11_count⟩
set_option maxRecDepth 100000 in
theorem ld_X12_count : aLd yX12_count 1 := ⟨by decide +kernel, by decide +kernel, by decide +kernel⟩
set_option maxRecDepth 100000 in
theorem lk_L_213 : aLV RL 213 yX12_count cX12_count 2 (some .int) 1 := ⟨gm 2230 rfl rfl, gm 2231 rfl rfl, gm 2232 rfl rfl, gm 126 rfl rfl, gm 2233 rfl rfl, ld_X12_count⟩
set_option maxRecDepth 100000 in
theorem lk_X0_5 : aLO RX0 5 := ⟨gm 353 rfl rfl, gm 145 rfl rfl, gm 146 rfl rfl⟩
set_option maxRecDepth 100000 in
theorem ld_X0_asleepWithPapers : aLd yX0_asleepWithPapers 0 := ⟨by decide +kernel, by decide +kernel, by decide +kernel⟩
set_option maxRecDepth 100000 in
theorem lk_X0_60 : aLV RX0 60 yX0_asleepWithPapers cX0_asleepWithPapers 4 (some .int) 0 := ⟨gm 1189 rfl rfl, gm 1191 rfl rfl, gm 32 rfl rfl, gm 124 rfl rfl, gm 1192 rfl rfl, ld_X0_asleepWithPapers⟩
set_option maxRecDepth 100000 in
theorem ld_X0_sumByHand : aLd yX0_sumByHand 1 := ⟨by decide +kernel, by decide +kernel, by decide +kernel⟩
set_option maxRecDepth 100000 in
theorem lk_X0_64 : aLV RX0 64 yX0_sumByHand cX0_sumByHand 6 none 1 := ⟨gm 1196 rfl rfl, gm 1198 rfl rfl, gm 33 rfl rfl, gm 124 rfl rfl, gm 1199 rfl rfl, ld_X0_sumByHand⟩
set_option maxRecDepth 100000 in
theorem ld_X1_officers : aLd yX1_officers 0 := ⟨by decide +kernel, by decide +kernel, by decide +kernel⟩
set_option maxRecDepth 100000 in
theorem lk_X0_68 : aLV RX0 68 yX1_officers cX1_officers 1 (some .int) 0 := ⟨gm 1203 rfl rfl, gm 1063 rfl rfl, gm 1064 rfl rfl, gm 119 rfl rfl, gm 1065 rfl rfl, ld_X1_officers⟩
set_option maxRecDepth 100000 in
theorem ld_X1_ofOfficer : aLd yX1_ofOfficer 2 := ⟨by decide +kernel, by decide +kernel, by decide +kernel⟩
set_option maxRecDepth 100000 in
theorem lk_X0_71 : aLV RX0 71 yX1_ofOfficer cX1_ofOfficer 3 (some .int) 2 := ⟨gm 1204 rfl rfl, gm 774 rfl rfl, gm 775 rfl rfl, gm 119 rfl rfl, gm 776 rfl rfl, ld_X1_ofOfficer⟩
set_option maxRecDepth 100000 in
theorem ld_X0_layOutDrawer : aLd yX0_layOutDrawer 1 := ⟨by decide +kernel, by decide +kernel, by decide +kernel⟩
set_option maxRecDepth 100000 in
theorem lk_X0_75 : aLV RX0 75 yX0_layOutDrawer cX0_layOutDrawer 9 none 1 := ⟨gm 1205 rfl rfl, gm 1207 rfl rfl, gm 34 rfl rfl, gm 124 rfl rfl, gm 1208 rfl rfl, ld_X0_layOutDrawer⟩
set_option maxRecDepth 100000 in
theorem ld_X0_addBorders : aLd yX0_addBorders 2 := ⟨by decide +kernel, by decide +kernel, by decide +kernel⟩
set_option maxRecDepth 100000 in
theorem lk_X0_78 : aLV RX0 78 yX0_addBorders cX0_addBorders 6 none 2 := ⟨gm 1217 rfl rfl, gm 1219 rfl rfl, gm 35 rfl rfl, gm 124 rfl rfl, gm 1220 rfl rfl, ld_X0_addBorders⟩
set_option maxRecDepth 100000 in
theorem ld_X1_papers : aLd yX1_papers 0 := ⟨by decide +kernel, by decide +kernel, by decide +kernel⟩
set_option maxRecDepth 100000 in
theorem lk_X0_82 : aLV RX0 82 yX1_papers cX1_papers 1 (some .int) 0 := ⟨gm 1193 rfl rfl, gm 824 rfl rfl, gm 825 rfl rfl, gm 119 rfl rfl, gm 826 rfl rfl, ld_X1_papers⟩
set_option maxRecDepth 100000 in
theorem ld_X8_inDrawer : aLd yX8_inDrawer 1 := ⟨by decide +kernel, by decide +kernel, by decide +kernel⟩
set_option maxRecDepth 100000 in
theorem lk_X0_85 : aLV RX0 85 yX8_inDrawer cX8_inDrawer 2 (some .int) 1 := ⟨gm 1194 rfl rfl, gm 953 rfl rfl, gm 954 rfl rfl, gm 120 rfl rfl, gm 955 rfl rfl, ld_X8_inDrawer⟩
set_option maxRecDepth 100000 in
theorem ld_X8_isAsleep : aLd yX8_isAsleep 1 := ⟨by decide +kernel, by decide +kernel, by decide +kernel⟩
set_option maxRecDepth 100000 in
theorem lk_X0_91 : aLV RX0 91 yX8_isAsleep cX8_isAsleep 2 (some .boolean) 1 := ⟨gm 1195 rfl rfl, gm 857 rfl rfl, gm 858 rfl rfl, gm 120 rfl rfl, gm 859 rfl rfl, ld_X8_isAsleep⟩
set_option maxRecDepth 100000 in
theorem ld_X1_allWeights : aLd yX1_allWeights 0 := ⟨by decide +kernel, by decide +kernel, by decide +kernel⟩
set_option maxRecDepth 100000 in
theorem lk_X0_95 : aLV RX0 95 yX1_allWeights cX1_allWeights 3 (some .int) 0 := ⟨gm 1200 rfl rfl, gm 1053 rfl rfl, gm 1054 rfl rfl, gm 119 rfl rfl, gm 1055 rfl rfl, ld_X1_allWeights⟩
set_option maxRecDepth 100000 in
theorem ld_X1_sleepers : aLd yX1_sleepers 0 := ⟨by decide +kernel, by decide +kernel, by decide +kernel⟩
set_option maxRecDepth 100000 in
theorem lk_X0_98 : aLV RX0 98 yX1_sleepers cX1_sleepers 1 (some .int) 0 := ⟨gm 1201 rfl rfl, gm 727 rfl rfl, gm 728 rfl rfl, gm 119 rfl rfl, gm 729 rfl rfl, ld_X1_sleepers⟩
set_option maxRecDepth 100000 in
theorem ld_X3_lossByHand : aLd yX3_lossByHand 2 := ⟨by decide +kernel, by decide +kernel, by decide +kernel⟩
set_option maxRecDepth 100000 in
theorem lk_X0_101 : aLV RX0 101 yX3_lossByHand cX3_lossByHand 3 (some .int) 2 := ⟨gm 1202 rfl rfl, gm 861 rfl rfl, gm 862 rfl rfl, gm 121 rfl rfl, gm 863 rfl rfl, ld_X3_lossByHand⟩
set_option maxRecDepth 100000 in
theorem ld_X8_coffees : aLd yX8_coffees 0 := ⟨by decide +kernel, by decide +kernel, by decide +kernel⟩
set_option maxRecDepth 100000 in
theorem lk_X0_107 : aLV RX0 107 yX8_coffees cX8_coffees 1 (some .int) 0 := ⟨gm 1209 rfl rfl, gm 761 rfl rfl, gm 762 rfl rfl, gm 120 rfl rfl, gm 763 rfl rfl, ld_X8_coffees⟩
set_option maxRecDepth 100000 in
theorem ld_X3_turnAwake : aLd yX3_turnAwake 2 := ⟨by decide +kernel, by decide +kernel, by decide +kernel⟩
set_option maxRecDepth 100000 in
theorem lk_X0_110 : aLV RX0 110 yX3_turnAwake cX3_turnAwake 4 (some .int) 2 := ⟨gm 1210 rfl rfl, gm 971 rfl rfl, gm 972 rfl rfl, gm 121 rfl rfl, gm 973 rfl rfl, ld_X3_turnAwake⟩
set_option maxRecDepth 100000 in
theorem ld_X8_saidFor : aLd yX8_saidFor 1 := ⟨by decide +kernel, by decide +kernel, by decide +kernel⟩
set_option maxRecDepth 100000 in
theorem lk_X0_113 : aLV RX0 113 yX8_saidFor cX8_saidFor 2 (some .int) 1 := ⟨gm 1211 rfl rfl, gm 844 rfl rfl, gm 845 rfl rfl, gm 120 rfl rfl, gm 846 rfl rfl, ld_X8_saidFor⟩
set_option maxRecDepth 100000 in
theorem ld_X3_waitOf : aLd yX3_waitOf 4 := ⟨by decide +kernel, by decide +kernel, by decide +kernel⟩
set_option maxRecDepth 100000 in
theorem lk_X0_116 : aLV RX0 116 yX3_waitOf cX3_waitOf 6 (some .int) 4 := ⟨gm 1212 rfl rfl, gm 976 rfl rfl, gm 977 rfl rfl, gm 121 rfl rfl, gm 978 rfl rfl, ld_X3_waitOf⟩
set_option maxRecDepth 100000 in
theorem ld_X3_takesCoffee : aLd yX3_takesCoffee 2 := ⟨by decide +kernel, by decide +kernel, by decide +kernel⟩
set_option maxRecDepth 100000 in
theorem lk_X0_120 : aLV RX0 120 yX3_takesCoffee cX3_takesCoffee 3 (some .boolean) 2 := ⟨gm 1213 rfl rfl, gm 980 rfl rfl, gm 981 rfl rfl, gm 121 rfl rfl, gm 982 rfl rfl, ld_X3_takesCoffee⟩
set_option maxRecDepth 100000 in
theorem ld_X3_wakes : aLd yX3_wakes 3 := ⟨by decide +kernel, by decide +kernel, by decide +kernel⟩
set_option maxRecDepth 100000 in
theorem lk_X0_124 : aLV RX0 124 yX3_wakes cX3_wakes 4 (some .boolean) 3 := ⟨gm 1214 rfl rfl, gm 961 rfl rfl, gm 962 rfl rfl, gm 121 rfl rfl, gm 963 rfl rfl, ld_X3_wakes⟩
set_option maxRecDepth 100000 in
theorem ld_X1_ruleOf : aLd yX1_ruleOf 1 := ⟨by decide +kernel, by decide +kernel, by decide +kernel⟩
set_option maxRecDepth 100000 in
theorem lk_X0_128 : aLV RX0 128 yX1_ruleOf cX1_ruleOf 2 (some .int) 1 := ⟨gm 1215 rfl rfl, gm 732 rfl rfl, gm 733 rfl rfl, gm 119 rfl rfl, gm 734 rfl rfl, ld_X1_ruleOf⟩
set_option maxRecDepth 100000 in
theorem ld_X3_lossOf : aLd yX3_lossOf 4 := ⟨by decide +kernel, by decide +kernel, by decide +kernel⟩
set_option maxRecDepth 100000 in
theorem lk_X0_131 : aLV RX0 131 yX3_lossOf cX3_lossOf 7 (some .int) 4 := ⟨gm 1216 rfl rfl, gm 865 rfl rfl, gm 866 rfl rfl, gm 121 rfl rfl, gm 867 rfl rfl, ld_X3_lossOf⟩
set_option maxRecDepth 100000 in
theorem ld_X0_lossWithout : aLd yX0_lossWithout 1 := ⟨by decide +kernel, by decide +kernel, by decide +kernel⟩
set_option maxRecDepth 100000 in
theorem lk_X0_135 : aLV RX0 135 yX0_lossWithout cX0_lossWithout 9 (some .int) 1 := ⟨gm 1221 rfl rfl, gm 1223 rfl rfl, gm 36 rfl rfl, gm 124 rfl rfl, gm 1224 rfl rfl, ld_X0_lossWithout⟩
set_option maxRecDepth 100000 in
theorem ld_X1_allowedTens : aLd yX1_allowedTens 0 := ⟨by decide +kernel, by decide +kernel, by decide +kernel⟩
set_option maxRecDepth 100000 in
theorem lk_X0_138 : aLV RX0 138 yX1_allowedTens cX1_allowedTens 1 (some .int) 0 := ⟨gm 1225 rfl rfl, gm 997 rfl rfl, gm 998 rfl rfl, gm 119 rfl rfl, gm 999 rfl rfl, ld_X1_allowedTens⟩
set_option maxRecDepth 100000 in
theorem ld_X1_isLacking : aLd yX1_isLacking 1 := ⟨by decide +kernel, by decide +kernel, by decide +kernel⟩
set_option maxRecDepth 100000 in
theorem lk_X0_144 : aLV RX0 144 yX1_isLacking cX1_isLacking 2 (some .boolean) 1 := ⟨gm 1242 rfl rfl, gm 840 rfl rfl, gm 841 rfl rfl, gm 119 rfl rfl, gm 842 rfl rfl, ld_X1_isLacking⟩
set_option maxRecDepth 100000 in
theorem ld_X0_layOutWaits : aLd yX0_layOutWaits 1 := ⟨by decide +kernel, by decide +kernel, by decide +kernel⟩
set_option maxRecDepth 100000 in
theorem lk_X0_147 : aLV RX0 147 yX0_layOutWaits cX0_layOutWaits 8 none 1 := ⟨gm 1243 rfl rfl, gm 1245 rfl rfl, gm 37 rfl rfl, gm 124 rfl rfl, gm 1246 rfl rfl, ld_X0_layOutWaits⟩
set_option maxRecDepth 100000 in
theorem ld_X0_chooseLeast : aLd yX0_chooseLeast 2 := ⟨by decide +kernel, by decide +kernel, by decide +kernel⟩
set_option maxRecDepth 100000 in
theorem lk_X0_151 : aLV RX0 151 yX0_chooseLeast cX0_chooseLeast 9 none 2 := ⟨gm 1258 rfl rfl, gm 1260 rfl rfl, gm 39 rfl rfl, gm 124 rfl rfl, gm 1261 rfl rfl, ld_X0_chooseLeast⟩
set_option maxRecDepth 100000 in
theorem ld_X0_chooseDigits : aLd yX0_chooseDigits 3 := ⟨by decide +kernel, by decide +kernel, by decide +kernel⟩
set_option maxRecDepth 100000 in
theorem lk_X0_154 : aLV RX0 154 yX0_chooseDigits cX0_chooseDigits 6 (some .boolean) 3 := ⟨gm 1273 rfl rfl, gm 1275 rfl rfl, gm 42 rfl rfl, gm 124 rfl rfl, gm 1276 rfl rfl, ld_X0_chooseDigits⟩
set_option maxRecDepth 100000 in
theorem ld_X3_turnOf : aLd yX3_turnOf 3 := ⟨by decide +kernel, by decide +kernel, by decide +kernel⟩
set_option maxRecDepth 100000 in
theorem lk_X0_158 : aLV RX0 158 yX3_turnOf cX3_turnOf 5 (some .int) 3 := ⟨gm 1247 rfl rfl, gm 957 rfl rfl, gm 958 rfl rfl, gm 121 rfl rfl, gm 959 rfl rfl, ld_X3_turnOf⟩
set_option maxRecDepth 100000 in
theorem ld_X0_cellOf : aLd yX0_cellOf 3 := ⟨by decide +kernel, by decide +kernel, by decide +kernel⟩
set_option maxRecDepth 100000 in
theorem lk_X0_162 : aLS RX0 162 yX0_cellOf cX0_cellOf 3 (some .int) 3 := ⟨gm 1248 rfl rfl, gm 1249 rfl rfl, gm 124 rfl rfl, gm 1250 rfl rfl, ld_X0_cellOf⟩
set_option maxRecDepth 100000 in
theorem ld_X0_layOutRest : aLd yX0_layOutRest 2 := ⟨by decide +kernel, by decide +kernel, by decide +kernel⟩
set_option maxRecDepth 100000 in
theorem lk_X0_166 : aLV RX0 166 yX0_layOutRest cX0_layOutRest 6 none 2 := ⟨gm 1251 rfl rfl, gm 1253 rfl rfl, gm 38 rfl rfl, gm 124 rfl rfl, gm 1254 rfl rfl, ld_X0_layOutRest⟩
set_option maxRecDepth 100000 in
theorem lk_X0_169 : aLm RX0 169 Lib.Math.min.name Lib.Math.min.code 2 := ⟨gm 1255 rfl rfl, gm 911 rfl rfl, gm 132 rfl rfl, gm 912 rfl rfl⟩
set_option maxRecDepth 100000 in
theorem lk_X0_174 : aLm RX0 174 Lib.Math.max.name Lib.Math.max.code 2 := ⟨gm 1256 rfl rfl, gm 914 rfl rfl, gm 132 rfl rfl, gm 915 rfl rfl⟩
set_option maxRecDepth 100000 in
theorem ld_X0_worthAtLeast : aLd yX0_worthAtLeast 1 := ⟨by decide +kernel, by decide +kernel, by decide +kernel⟩
set_option maxRecDepth 100000 in
theorem lk_X0_177 : aLV RX0 177 yX0_worthAtLeast cX0_worthAtLeast 6 (some .int) 1 := ⟨gm 1262 rfl rfl, gm 1264 rfl rfl, gm 40 rfl rfl, gm 124 rfl rfl, gm 1265 rfl rfl, ld_X0_worthAtLeast⟩
set_option maxRecDepth 100000 in
theorem ld_X0_coffeesBehind : aLd yX0_coffeesBehind 2 := ⟨by decide +kernel, by decide +kernel, by decide +kernel⟩
set_option maxRecDepth 100000 in
theorem lk_X0_180 : aLS RX0 180 yX0_coffeesBehind cX0_coffeesBehind 2 (some .int) 2 := ⟨gm 1266 rfl rfl, gm 1267 rfl rfl, gm 124 rfl rfl, gm 1268 rfl rfl, ld_X0_coffeesBehind⟩
set_option maxRecDepth 100000 in
theorem ld_X0_sayOne : aLd yX0_sayOne 2 := ⟨by decide +kernel, by decide +kernel, by decide +kernel⟩
set_option maxRecDepth 100000 in
theorem lk_X0_183 : aLV RX0 183 yX0_sayOne cX0_sayOne 7 none 2 := ⟨gm 1269 rfl rfl, gm 1271 rfl rfl, gm 41 rfl rfl, gm 124 rfl rfl, gm 1272 rfl rfl, ld_X0_sayOne⟩
set_option maxRecDepth 100000 in
theorem lk_X1_3 : aLO RX1 3 := ⟨gm 228 rfl rfl, gm 145 rfl rfl, gm 146 rfl rfl⟩
set_option maxRecDepth 100000 in
theorem ld_X1_hasSleeper : aLd yX1_hasSleeper 1 := ⟨by decide +kernel, by decide +kernel, by decide +kernel⟩
set_option maxRecDepth 100000 in
theorem lk_X1_31 : aLV RX1 31 yX1_hasSleeper cX1_hasSleeper 2 (some .boolean) 1 := ⟨gm 606 rfl rfl, gm 607 rfl rfl, gm 608 rfl rfl, gm 119 rfl rfl, gm 609 rfl rfl, ld_X1_hasSleeper⟩
set_option maxRecDepth 100000 in
theorem ld_X1_ofSleeper : aLd yX1_ofSleeper 2 := ⟨by decide +kernel, by decide +kernel, by decide +kernel⟩
set_option maxRecDepth 100000 in
theorem lk_X1_35 : aLV RX1 35 yX1_ofSleeper cX1_ofSleeper 3 (some .int) 2 := ⟨gm 610 rfl rfl, gm 611 rfl rfl, gm 612 rfl rfl, gm 119 rfl rfl, gm 613 rfl rfl, ld_X1_ofSleeper⟩
set_option maxRecDepth 100000 in
theorem ld_X1_hasPaper : aLd yX1_hasPaper 1 := ⟨by decide +kernel, by decide +kernel, by decide +kernel⟩
set_option maxRecDepth 100000 in
theorem lk_X1_39 : aLV RX1 39 yX1_hasPaper cX1_hasPaper 2 (some .boolean) 1 := ⟨gm 602 rfl rfl, gm 603 rfl rfl, gm 604 rfl rfl, gm 119 rfl rfl, gm 605 rfl rfl, ld_X1_hasPaper⟩
set_option maxRecDepth 100000 in
theorem lk_X1_42 : aLV RX1 42 yX1_ofOfficer cX1_ofOfficer 3 (some .int) 2 := ⟨gm 968 rfl rfl, gm 774 rfl rfl, gm 775 rfl rfl, gm 119 rfl rfl, gm 776 rfl rfl, ld_X1_ofOfficer⟩
set_option maxRecDepth 100000 in
theorem lk_X1_45 : aCw RX1 45 := ⟨gm 515 rfl rfl, gm 517 rfl rfl, gm 516 rfl rfl, gm 127 rfl rfl⟩
set_option maxRecDepth 100000 in
theorem ld_X10_rewind : aLd yX10_rewind 0 := ⟨by decide +kernel, by decide +kernel, by decide +kernel⟩
set_option maxRecDepth 100000 in
theorem lk_X1_54 : aLV RX1 54 yX10_rewind cX10_rewind 1 none 0 := ⟨gm 518 rfl rfl, gm 519 rfl rfl, gm 520 rfl rfl, gm 115 rfl rfl, gm 521 rfl rfl, ld_X10_rewind⟩
set_option maxRecDepth 100000 in
theorem ld_X10_ahead : aLd yX10_ahead 0 := ⟨by decide +kernel, by decide +kernel, by decide +kernel⟩
set_option maxRecDepth 100000 in
theorem lk_X1_59 : aLV RX1 59 yX10_ahead cX10_ahead 1 (some .int) 0 := ⟨gm 522 rfl rfl, gm 523 rfl rfl, gm 524 rfl rfl, gm 115 rfl rfl, gm 525 rfl rfl, ld_X10_ahead⟩
set_option maxRecDepth 100000 in
theorem ld_X1_readClause : aLd yX1_readClause 3 := ⟨by decide +kernel, by decide +kernel, by decide +kernel⟩
set_option maxRecDepth 100000 in
theorem lk_X1_63 : aLV RX1 63 yX1_readClause cX1_readClause 4 (some .boolean) 3 := ⟨gm 526 rfl rfl, gm 528 rfl rfl, gm 1 rfl rfl, gm 119 rfl rfl, gm 529 rfl rfl, ld_X1_readClause⟩
set_option maxRecDepth 100000 in
theorem ld_X1_countPapers : aLd yX1_countPapers 0 := ⟨by decide +kernel, by decide +kernel, by decide +kernel⟩
set_option maxRecDepth 100000 in
theorem lk_X1_67 : aLV RX1 67 yX1_countPapers cX1_countPapers 3 (some .int) 0 := ⟨gm 598 rfl rfl, gm 600 rfl rfl, gm 3 rfl rfl, gm 119 rfl rfl, gm 601 rfl rfl, ld_X1_countPapers⟩
set_option maxRecDepth 100000 in
theorem ld_X10_takes : aLd yX10_takes 1 := ⟨by decide +kernel, by decide +kernel, by decide +kernel⟩
set_option maxRecDepth 100000 in
theorem lk_X1_70 : aLV RX1 70 yX10_takes cX10_takes 2 (some .boolean) 1 := ⟨gm 614 rfl rfl, gm 615 rfl rfl, gm 616 rfl rfl, gm 115 rfl rfl, gm 617 rfl rfl, ld_X10_takes⟩
set_option maxRecDepth 100000 in
theorem ld_X10_pass : aLd yX10_pass 0 := ⟨by decide +kernel, by decide +kernel, by decide +kernel⟩
set_option maxRecDepth 100000 in
theorem lk_X1_73 : aLV RX1 73 yX10_pass cX10_pass 1 none 0 := ⟨gm 530 rfl rfl, gm 531 rfl rfl, gm 532 rfl rfl, gm 115 rfl rfl, gm 533 rfl rfl, ld_X10_pass⟩
set_option maxRecDepth 100000 in
theorem ld_X1_readItems : aLd yX1_readItems 5 := ⟨by decide +kernel, by decide +kernel, by decide +kernel⟩
set_option maxRecDepth 100000 in
theorem lk_X1_76 : aLS RX1 76 yX1_readItems cX1_readItems 9 (some .boolean) 5 := ⟨gm 534 rfl rfl, gm 535 rfl rfl, gm 119 rfl rfl, gm 536 rfl rfl, ld_X1_readItems⟩
set_option maxRecDepth 100000 in
theorem ld_X1_itemOf : aLd yX1_itemOf 3 := ⟨by decide +kernel, by decide +kernel, by decide +kernel⟩
set_option maxRecDepth 100000 in
theorem lk_X1_80 : aLS RX1 80 yX1_itemOf cX1_itemOf 4 (some .int) 3 := ⟨gm 537 rfl rfl, gm 538 rfl rfl, gm 119 rfl rfl, gm 539 rfl rfl, ld_X1_itemOf⟩
set_option maxRecDepth 100000 in
theorem ld_X10_number : aLd yX10_number 1 := ⟨by decide +kernel, by decide +kernel, by decide +kernel⟩
set_option maxRecDepth 100000 in
theorem lk_X1_84 : aLV RX1 84 yX10_number cX10_number 4 (some .int) 1 := ⟨gm 581 rfl rfl, gm 582 rfl rfl, gm 583 rfl rfl, gm 115 rfl rfl, gm 584 rfl rfl, ld_X10_number⟩
set_option maxRecDepth 100000 in
theorem ld_X10_stayAtLastDigit : aLd yX10_stayAtLastDigit 0 := ⟨by decide +kernel, by decide +kernel, by decide +kernel⟩
set_option maxRecDepth 100000 in
theorem lk_X1_94 : aLV RX1 94 yX10_stayAtLastDigit cX10_stayAtLastDigit 1 none 0 := ⟨gm 594 rfl rfl, gm 595 rfl rfl, gm 596 rfl rfl, gm 115 rfl rfl, gm 597 rfl rfl, ld_X10_stayAtLastDigit⟩
set_option maxRecDepth 100000 in
theorem ld_J0_charAt_5068e : aLd yJ0_charAt_5068e 1 := ⟨by decide +kernel, by decide +kernel, by decide +kernel⟩
set_option maxRecDepth 100000 in
theorem lk_X1_99 : aLV RX1 99 yJ0_charAt_5068e cJ0_charAt_5068e 2 (some .char) 1 := ⟨gm 541 rfl rfl, gm 542 rfl rfl, gm 543 rfl rfl, gm 128 rfl rfl, gm 544 rfl rfl, ld_J0_charAt_5068e⟩
set_option maxRecDepth 100000 in
theorem lk_X10_3 : aLO RX10 3 := ⟨gm 152 rfl rfl, gm 145 rfl rfl, gm 146 rfl rfl⟩
set_option maxRecDepth 100000 in
theorem lk_X10_22 : aLV RX10 22 yX10_ahead cX10_ahead 1 (some .int) 0 := ⟨gm 585 rfl rfl, gm 523 rfl rfl, gm 524 rfl rfl, gm 115 rfl rfl, gm 525 rfl rfl, ld_X10_ahead⟩
set_option maxRecDepth 100000 in
theorem lk_X10_26 : aLV RX10 26 yX10_pass cX10_pass 1 none 0 := ⟨gm 618 rfl rfl, gm 531 rfl rfl, gm 532 rfl rfl, gm 115 rfl rfl, gm 533 rfl rfl, ld_X10_pass⟩
set_option maxRecDepth 100000 in
theorem ld_X10_atDigit : aLd yX10_atDigit 0 := ⟨by decide +kernel, by decide +kernel, by decide +kernel⟩
set_option maxRecDepth 100000 in
theorem lk_X10_29 : aLV RX10 29 yX10_atDigit cX10_atDigit 1 (some .boolean) 0 := ⟨gm 586 rfl rfl, gm 588 rfl rfl, gm 2 rfl rfl, gm 115 rfl rfl, gm 589 rfl rfl, ld_X10_atDigit⟩
set_option maxRecDepth 100000 in
theorem lk_X11_1 : aLO RX11 1 := ⟨gm 144 rfl rfl, gm 145 rfl rfl, gm 146 rfl rfl⟩
set_option maxRecDepth 100000 in
theorem ld_X10_init : aLd yX10_init 0 := ⟨by decide +kernel, by decide +kernel, by decide +kernel⟩
set_option maxRecDepth 100000 in
theorem lk_X11_9 : aLN RX11 9 yX10_init cX10_init 1 0 := ⟨by decide +kernel, gm 150 rfl rfl, gm 115 rfl rfl, gm 151 rfl rfl, ld_X10_init, rfl⟩
set_option maxRecDepth 100000 in
theorem ld_X9_init : aLd yX9_init 0 := ⟨by decide +kernel, by decide +kernel, by decide +kernel⟩
set_option maxRecDepth 100000 in
theorem lk_X11_18 : aLN RX11 18 yX9_init cX9_init 1 0 := ⟨by decide +kernel, gm 167 rfl rfl, gm 116 rfl rfl, gm 168 rfl rfl, ld_X9_init, rfl⟩
set_option maxRecDepth 100000 in
theorem ld_X1_init : aLd yX1_init 0 := ⟨by decide +kernel, by decide +kernel, by decide +kernel⟩
set_option maxRecDepth 100000 in
theorem lk_X11_25 : aLN RX11 25 yX1_init cX1_init 1 0 := ⟨by decide +kernel, gm 226 rfl rfl, gm 119 rfl rfl, gm 227 rfl rfl, ld_X1_init, rfl⟩
set_option maxRecDepth 100000 in
theorem ld_X8_init : aLd yX8_init 0 := ⟨by decide +kernel, by decide +kernel, by decide +kernel⟩
set_option maxRecDepth 100000 in
theorem lk_X11_35 : aLN RX11 35 yX8_init cX8_init 1 0 := ⟨by decide +kernel, gm 251 rfl rfl, gm 120 rfl rfl, gm 252 rfl rfl, ld_X8_init, rfl⟩
set_option maxRecDepth 100000 in
theorem ld_X3_init : aLd yX3_init 1 := ⟨by decide +kernel, by decide +kernel, by decide +kernel⟩
set_option maxRecDepth 100000 in
theorem lk_X11_45 : aLI RX11 45 yX3_init cX3_init 2 1 := ⟨gm 260 rfl rfl, gm 261 rfl rfl, gm 121 rfl rfl, gm 262 rfl rfl, ld_X3_init, rfl⟩
set_option maxRecDepth 100000 in
theorem ld_X6_init : aLd yX6_init 0 := ⟨by decide +kernel, by decide +kernel, by decide +kernel⟩
set_option maxRecDepth 100000 in
theorem lk_X11_54 : aLN RX11 54 yX6_init cX6_init 1 0 := ⟨by decide +kernel, gm 283 rfl rfl, gm 122 rfl rfl, gm 284 rfl rfl, ld_X6_init, rfl⟩
set_option maxRecDepth 100000 in
theorem ld_X7_init : aLd yX7_init 3 := ⟨by decide +kernel, by decide +kernel, by decide +kernel⟩
set_option maxRecDepth 100000 in
theorem lk_X11_61 : aLI RX11 61 yX7_init cX7_init 4 3 := ⟨gm 310 rfl rfl, gm 311 rfl rfl, gm 123 rfl rfl, gm 312 rfl rfl, ld_X7_init, rfl⟩
set_option maxRecDepth 100000 in
theorem ld_X0_init : aLd yX0_init 3 := ⟨by decide +kernel, by decide +kernel, by decide +kernel⟩
set_option maxRecDepth 100000 in
theorem lk_X11_70 : aLI RX11 70 yX0_init cX0_init 4 3 := ⟨gm 350 rfl rfl, gm 351 rfl rfl, gm 124 rfl rfl, gm 352 rfl rfl, ld_X0_init, rfl⟩
set_option maxRecDepth 100000 in
theorem ld_X2_init : aLd yX2_init 3 := ⟨by decide +kernel, by decide +kernel, by decide +kernel⟩
set_option maxRecDepth 100000 in
theorem lk_X11_77 : aLI RX11 77 yX2_init cX2_init 4 3 := ⟨gm 402 rfl rfl, gm 403 rfl rfl, gm 125 rfl rfl, gm 404 rfl rfl, ld_X2_init, rfl⟩
set_option maxRecDepth 100000 in
theorem ld_X10_signsIn : aLd yX10_signsIn 1 := ⟨by decide +kernel, by decide +kernel, by decide +kernel⟩
set_option maxRecDepth 100000 in
theorem lk_X11_89 : aLS RX11 89 yX10_signsIn cX10_signsIn 3 (some .int) 1 := ⟨gm 482 rfl rfl, gm 483 rfl rfl, gm 115 rfl rfl, gm 484 rfl rfl, ld_X10_signsIn⟩
set_option maxRecDepth 100000 in
theorem ld_X10_size : aLd yX10_size 0 := ⟨by decide +kernel, by decide +kernel, by decide +kernel⟩
set_option maxRecDepth 100000 in
theorem lk_X11_93 : aLV RX11 93 yX10_size cX10_size 1 (some .int) 0 := ⟨gm 485 rfl rfl, gm 486 rfl rfl, gm 487 rfl rfl, gm 115 rfl rfl, gm 488 rfl rfl, ld_X10_size⟩
set_option maxRecDepth 100000 in
theorem ld_X10_add : aLd yX10_add 1 := ⟨by decide +kernel, by decide +kernel, by decide +kernel⟩
set_option maxRecDepth 100000 in
theorem lk_X11_97 : aLV RX11 97 yX10_add cX10_add 4 none 1 := ⟨gm 489 rfl rfl, gm 490 rfl rfl, gm 491 rfl rfl, gm 115 rfl rfl, gm 492 rfl rfl, ld_X10_add⟩
set_option maxRecDepth 100000 in
theorem ld_X10_cut : aLd yX10_cut 1 := ⟨by decide +kernel, by decide +kernel, by decide +kernel⟩
set_option maxRecDepth 100000 in
theorem lk_X11_101 : aLV RX11 101 yX10_cut cX10_cut 2 none 1 := ⟨gm 497 rfl rfl, gm 498 rfl rfl, gm 499 rfl rfl, gm 115 rfl rfl, gm 500 rfl rfl, ld_X10_cut⟩
set_option maxRecDepth 100000 in
theorem ld_X11_canRead : aLd yX11_canRead 1 := ⟨by decide +kernel, by decide +kernel, by decide +kernel⟩
set_option maxRecDepth 100000 in
theorem lk_X11_104 : aLV RX11 104 yX11_canRead cX11_canRead 2 (some .boolean) 1 := ⟨gm 505 rfl rfl, gm 507 rfl rfl, gm 0 rfl rfl, gm 114 rfl rfl, gm 508 rfl rfl, ld_X11_canRead⟩
set_option maxRecDepth 100000 in
theorem ld_X10_at : aLd yX10_at 0 := ⟨by decide +kernel, by decide +kernel, by decide +kernel⟩
set_option maxRecDepth 100000 in
theorem lk_X11_108 : aLV RX11 108 yX10_at cX10_at 1 (some .int) 0 := ⟨gm 702 rfl rfl, gm 703 rfl rfl, gm 704 rfl rfl, gm 115 rfl rfl, gm 705 rfl rfl, ld_X10_at⟩
set_option maxRecDepth 100000 in
theorem ld_X11_board : aLd yX11_board 0 := ⟨by decide +kernel, by decide +kernel, by decide +kernel⟩
set_option maxRecDepth 100000 in
theorem lk_X11_111 : aLV RX11 111 yX11_board cX11_board 1 (some .int) 0 := ⟨gm 711 rfl rfl, gm 713 rfl rfl, gm 14 rfl rfl, gm 114 rfl rfl, gm 714 rfl rfl, ld_X11_board⟩
set_option maxRecDepth 100000 in
theorem ld_X9_keepLaw : aLd yX9_keepLaw 0 := ⟨by decide +kernel, by decide +kernel, by decide +kernel⟩
set_option maxRecDepth 100000 in
theorem lk_X11_114 : aLV RX11 114 yX9_keepLaw cX9_keepLaw 1 (some .int) 0 := ⟨gm 744 rfl rfl, gm 745 rfl rfl, gm 746 rfl rfl, gm 116 rfl rfl, gm 747 rfl rfl, ld_X9_keepLaw⟩
set_option maxRecDepth 100000 in
theorem ld_X9_keepLines : aLd yX9_keepLines 0 := ⟨by decide +kernel, by decide +kernel, by decide +kernel⟩
set_option maxRecDepth 100000 in
theorem lk_X11_117 : aLV RX11 117 yX9_keepLines cX9_keepLines 1 (some .int) 0 := ⟨gm 748 rfl rfl, gm 749 rfl rfl, gm 750 rfl rfl, gm 116 rfl rfl, gm 751 rfl rfl, ld_X9_keepLines⟩
set_option maxRecDepth 100000 in
theorem ld_X11_noCar : aLd yX11_noCar 0 := ⟨by decide +kernel, by decide +kernel, by decide +kernel⟩
set_option maxRecDepth 100000 in
theorem lk_X11_120 : aLV RX11 120 yX11_noCar cX11_noCar 1 (some .boolean) 0 := ⟨gm 756 rfl rfl, gm 758 rfl rfl, gm 15 rfl rfl, gm 114 rfl rfl, gm 759 rfl rfl, ld_X11_noCar⟩
set_option maxRecDepth 100000 in
theorem lk_X11_124 : aLV RX11 124 yX8_coffees cX8_coffees 1 (some .int) 0 := ⟨gm 760 rfl rfl, gm 761 rfl rfl, gm 762 rfl rfl, gm 120 rfl rfl, gm 763 rfl rfl, ld_X8_coffees⟩
set_option maxRecDepth 100000 in
theorem lk_X11_127 : aLV RX11 127 yX1_ruleOf cX1_ruleOf 2 (some .int) 1 := ⟨gm 764 rfl rfl, gm 732 rfl rfl, gm 733 rfl rfl, gm 119 rfl rfl, gm 734 rfl rfl, ld_X1_ruleOf⟩
set_option maxRecDepth 100000 in
theorem lk_X11_130 : aLV RX11 130 yX1_hasSleeper cX1_hasSleeper 2 (some .boolean) 1 := ⟨gm 1306 rfl rfl, gm 607 rfl rfl, gm 608 rfl rfl, gm 119 rfl rfl, gm 609 rfl rfl, ld_X1_hasSleeper⟩
set_option maxRecDepth 100000 in
theorem ld_X8_berthOf : aLd yX8_berthOf 1 := ⟨by decide +kernel, by decide +kernel, by decide +kernel⟩
set_option maxRecDepth 100000 in
theorem lk_X11_140 : aLV RX11 140 yX8_berthOf cX8_berthOf 2 (some .int) 1 := ⟨gm 1538 rfl rfl, gm 1539 rfl rfl, gm 1540 rfl rfl, gm 120 rfl rfl, gm 1541 rfl rfl, ld_X8_berthOf⟩
set_option maxRecDepth 100000 in
theorem lk_X11_143 : aLV RX11 143 yX1_papers cX1_papers 1 (some .int) 0 := ⟨gm 1134 rfl rfl, gm 824 rfl rfl, gm 825 rfl rfl, gm 119 rfl rfl, gm 826 rfl rfl, ld_X1_papers⟩
set_option maxRecDepth 100000 in
theorem ld_X8_placeOf : aLd yX8_placeOf 2 := ⟨by decide +kernel, by decide +kernel, by decide +kernel⟩
set_option maxRecDepth 100000 in
theorem lk_X11_146 : aLV RX11 146 yX8_placeOf cX8_placeOf 4 (some .int) 2 := ⟨gm 1542 rfl rfl, gm 828 rfl rfl, gm 829 rfl rfl, gm 120 rfl rfl, gm 830 rfl rfl, ld_X8_placeOf⟩
set_option maxRecDepth 100000 in
theorem lk_X11_150 : aLV RX11 150 yX8_saidFor cX8_saidFor 2 (some .int) 1 := ⟨gm 1543 rfl rfl, gm 844 rfl rfl, gm 845 rfl rfl, gm 120 rfl rfl, gm 846 rfl rfl, ld_X8_saidFor⟩
set_option maxRecDepth 100000 in
theorem lk_X11_153 : aLV RX11 153 yX8_isAsleep cX8_isAsleep 2 (some .boolean) 1 := ⟨gm 1067 rfl rfl, gm 857 rfl rfl, gm 858 rfl rfl, gm 120 rfl rfl, gm 859 rfl rfl, ld_X8_isAsleep⟩
set_option maxRecDepth 100000 in
theorem ld_X8_lostBy : aLd yX8_lostBy 1 := ⟨by decide +kernel, by decide +kernel, by decide +kernel⟩
set_option maxRecDepth 100000 in
theorem lk_X11_156 : aLV RX11 156 yX8_lostBy cX8_lostBy 2 (some .int) 1 := ⟨gm 1410 rfl rfl, gm 1411 rfl rfl, gm 1412 rfl rfl, gm 120 rfl rfl, gm 1413 rfl rfl, ld_X8_lostBy⟩
set_option maxRecDepth 100000 in
theorem lk_X11_159 : aLV RX11 159 yX1_ofSleeper cX1_ofSleeper 3 (some .int) 2 := ⟨gm 1544 rfl rfl, gm 611 rfl rfl, gm 612 rfl rfl, gm 119 rfl rfl, gm 613 rfl rfl, ld_X1_ofSleeper⟩
set_option maxRecDepth 100000 in
theorem ld_X1_hasOfficer : aLd yX1_hasOfficer 1 := ⟨by decide +kernel, by decide +kernel, by decide +kernel⟩
set_option maxRecDepth 100000 in
theorem lk_X11_162 : aLV RX11 162 yX1_hasOfficer cX1_hasOfficer 2 (some .boolean) 1 := ⟨gm 769 rfl rfl, gm 770 rfl rfl, gm 771 rfl rfl, gm 119 rfl rfl, gm 772 rfl rfl, ld_X1_hasOfficer⟩
set_option maxRecDepth 100000 in
theorem lk_X11_165 : aLV RX11 165 yX1_ofOfficer cX1_ofOfficer 3 (some .int) 2 := ⟨gm 773 rfl rfl, gm 774 rfl rfl, gm 775 rfl rfl, gm 119 rfl rfl, gm 776 rfl rfl, ld_X1_ofOfficer⟩
set_option maxRecDepth 100000 in
theorem ld_X9_lawCount : aLd yX9_lawCount 0 := ⟨by decide +kernel, by decide +kernel, by decide +kernel⟩
set_option maxRecDepth 100000 in
theorem lk_X11_168 : aLV RX11 168 yX9_lawCount cX9_lawCount 1 (some .int) 0 := ⟨gm 781 rfl rfl, gm 782 rfl rfl, gm 783 rfl rfl, gm 116 rfl rfl, gm 784 rfl rfl, ld_X9_lawCount⟩
set_option maxRecDepth 100000 in
theorem ld_X9_lawAt : aLd yX9_lawAt 1 := ⟨by decide +kernel, by decide +kernel, by decide +kernel⟩
set_option maxRecDepth 100000 in
theorem lk_X11_171 : aLV RX11 171 yX9_lawAt cX9_lawAt 2 (some (.object "WokenBorder$Law")) 1 := ⟨gm 785 rfl rfl, gm 786 rfl rfl, gm 787 rfl rfl, gm 116 rfl rfl, gm 788 rfl rfl, ld_X9_lawAt⟩
set_option maxRecDepth 100000 in
theorem ld_X3_hold : aLd yX3_hold 1 := ⟨by decide +kernel, by decide +kernel, by decide +kernel⟩
set_option maxRecDepth 100000 in
theorem lk_X11_175 : aLV RX11 175 yX3_hold cX3_hold 2 none 1 := ⟨gm 789 rfl rfl, gm 790 rfl rfl, gm 791 rfl rfl, gm 121 rfl rfl, gm 792 rfl rfl, ld_X3_hold⟩
set_option maxRecDepth 100000 in
theorem ld_X11_act : aLd yX11_act 3 := ⟨by decide +kernel, by decide +kernel, by decide +kernel⟩
set_option maxRecDepth 100000 in
theorem lk_X11_181 : aLV RX11 181 yX11_act cX11_act 5 (some .int) 3 := ⟨gm 801 rfl rfl, gm 803 rfl rfl, gm 16 rfl rfl, gm 114 rfl rfl, gm 804 rfl rfl, ld_X11_act⟩
set_option maxRecDepth 100000 in
theorem ld_X6_acts : aLd yX6_acts 0 := ⟨by decide +kernel, by decide +kernel, by decide +kernel⟩
set_option maxRecDepth 100000 in
theorem lk_X11_185 : aLV RX11 185 yX6_acts cX6_acts 1 (some .int) 0 := ⟨gm 1032 rfl rfl, gm 1033 rfl rfl, gm 1034 rfl rfl, gm 122 rfl rfl, gm 1035 rfl rfl, ld_X6_acts⟩
set_option maxRecDepth 100000 in
theorem ld_X6_note : aLd yX6_note 1 := ⟨by decide +kernel, by decide +kernel, by decide +kernel⟩
set_option maxRecDepth 100000 in
theorem lk_X11_192 : aLV RX11 192 yX6_note cX6_note 2 none 1 := ⟨gm 805 rfl rfl, gm 806 rfl rfl, gm 807 rfl rfl, gm 122 rfl rfl, gm 808 rfl rfl, ld_X6_note⟩
set_option maxRecDepth 100000 in
theorem ld_X11_spendNight : aLd yX11_spendNight 0 := ⟨by decide +kernel, by decide +kernel, by decide +kernel⟩
set_option maxRecDepth 100000 in
theorem lk_X11_196 : aLV RX11 196 yX11_spendNight cX11_spendNight 3 none 0 := ⟨gm 1044 rfl rfl, gm 1046 rfl rfl, gm 27 rfl rfl, gm 114 rfl rfl, gm 1047 rfl rfl, ld_X11_spendNight⟩
set_option maxRecDepth 100000 in
theorem ld_X6_keepAct : aLd yX6_keepAct 0 := ⟨by decide +kernel, by decide +kernel, by decide +kernel⟩
set_option maxRecDepth 100000 in
theorem lk_X11_199 : aLV RX11 199 yX6_keepAct cX6_keepAct 1 none 0 := ⟨gm 987 rfl rfl, gm 988 rfl rfl, gm 989 rfl rfl, gm 122 rfl rfl, gm 990 rfl rfl, ld_X6_keepAct⟩
set_option maxRecDepth 100000 in
theorem ld_X6_logged : aLd yX6_logged 1 := ⟨by decide +kernel, by decide +kernel, by decide +kernel⟩
set_option maxRecDepth 100000 in
theorem lk_X11_202 : aLV RX11 202 yX6_logged cX6_logged 2 (some .int) 1 := ⟨gm 1069 rfl rfl, gm 1070 rfl rfl, gm 1071 rfl rfl, gm 122 rfl rfl, gm 1072 rfl rfl, ld_X6_logged⟩
set_option maxRecDepth 100000 in
theorem ld_X6_takeBack : aLd yX6_takeBack 1 := ⟨by decide +kernel, by decide +kernel, by decide +kernel⟩
set_option maxRecDepth 100000 in
theorem lk_X11_206 : aLV RX11 206 yX6_takeBack cX6_takeBack 2 (some .boolean) 1 := ⟨gm 1077 rfl rfl, gm 1078 rfl rfl, gm 1079 rfl rfl, gm 122 rfl rfl, gm 1080 rfl rfl, ld_X6_takeBack⟩
set_option maxRecDepth 100000 in
theorem ld_X6_logEntry : aLd yX6_logEntry 3 := ⟨by decide +kernel, by decide +kernel, by decide +kernel⟩
set_option maxRecDepth 100000 in
theorem lk_X11_210 : aLV RX11 210 yX6_logEntry cX6_logEntry 4 (some .int) 3 := ⟨gm 1089 rfl rfl, gm 1090 rfl rfl, gm 1091 rfl rfl, gm 122 rfl rfl, gm 1092 rfl rfl, ld_X6_logEntry⟩
set_option maxRecDepth 100000 in
theorem ld_X9_linesAt : aLd yX9_linesAt 1 := ⟨by decide +kernel, by decide +kernel, by decide +kernel⟩
set_option maxRecDepth 100000 in
theorem lk_X11_214 : aLV RX11 214 yX9_linesAt cX9_linesAt 2 (some (.object "WokenBorder$Lines")) 1 := ⟨gm 1097 rfl rfl, gm 1098 rfl rfl, gm 1099 rfl rfl, gm 116 rfl rfl, gm 1100 rfl rfl, ld_X9_linesAt⟩
set_option maxRecDepth 100000 in
theorem ld_X5_size : aLd yX5_size 0 := ⟨by decide +kernel, by decide +kernel, by decide +kernel⟩
set_option maxRecDepth 100000 in
theorem lk_X11_218 : aLV RX11 218 yX5_size cX5_size 1 (some .int) 0 := ⟨gm 1101 rfl rfl, gm 1102 rfl rfl, gm 1103 rfl rfl, gm 118 rfl rfl, gm 1104 rfl rfl, ld_X5_size⟩
set_option maxRecDepth 100000 in
theorem ld_X5_part : aLd yX5_part 2 := ⟨by decide +kernel, by decide +kernel, by decide +kernel⟩
set_option maxRecDepth 100000 in
theorem lk_X11_220 : aLV RX11 220 yX5_part cX5_part 3 (some .int) 2 := ⟨gm 1106 rfl rfl, gm 1107 rfl rfl, gm 1108 rfl rfl, gm 118 rfl rfl, gm 1109 rfl rfl, ld_X5_part⟩
set_option maxRecDepth 100000 in
theorem ld_X8_copyFrom : aLd yX8_copyFrom 1 := ⟨by decide +kernel, by decide +kernel, by decide +kernel⟩
set_option maxRecDepth 100000 in
theorem lk_X11_223 : aLV RX11 223 yX8_copyFrom cX8_copyFrom 2 none 1 := ⟨gm 1114 rfl rfl, gm 1115 rfl rfl, gm 1116 rfl rfl, gm 120 rfl rfl, gm 1117 rfl rfl, ld_X8_copyFrom⟩
set_option maxRecDepth 100000 in
theorem ld_X3_done : aLd yX3_done 4 := ⟨by decide +kernel, by decide +kernel, by decide +kernel⟩
set_option maxRecDepth 100000 in
theorem lk_X11_226 : aLV RX11 226 yX3_done cX3_done 5 (some .int) 4 := ⟨gm 814 rfl rfl, gm 815 rfl rfl, gm 816 rfl rfl, gm 121 rfl rfl, gm 817 rfl rfl, ld_X3_done⟩
set_option maxRecDepth 100000 in
theorem ld_X8_lostInAll : aLd yX8_lostInAll 0 := ⟨by decide +kernel, by decide +kernel, by decide +kernel⟩
set_option maxRecDepth 100000 in
theorem lk_X11_230 : aLV RX11 230 yX8_lostInAll cX8_lostInAll 1 (some .int) 0 := ⟨gm 1118 rfl rfl, gm 1119 rfl rfl, gm 1120 rfl rfl, gm 120 rfl rfl, gm 1121 rfl rfl, ld_X8_lostInAll⟩
set_option maxRecDepth 100000 in
theorem ld_X3_pass : aLd yX3_pass 3 := ⟨by decide +kernel, by decide +kernel, by decide +kernel⟩
set_option maxRecDepth 100000 in
theorem lk_X11_233 : aLV RX11 233 yX3_pass cX3_pass 12 (some .int) 3 := ⟨gm 1066 rfl rfl, gm 948 rfl rfl, gm 949 rfl rfl, gm 121 rfl rfl, gm 950 rfl rfl, ld_X3_pass⟩
set_option maxRecDepth 100000 in
theorem ld_X3_sleepLost : aLd yX3_sleepLost 0 := ⟨by decide +kernel, by decide +kernel, by decide +kernel⟩
set_option maxRecDepth 100000 in
theorem lk_X11_237 : aLV RX11 237 yX3_sleepLost cX3_sleepLost 1 (some .int) 0 := ⟨gm 1000 rfl rfl, gm 1001 rfl rfl, gm 1002 rfl rfl, gm 121 rfl rfl, gm 1003 rfl rfl, ld_X3_sleepLost⟩
set_option maxRecDepth 100000 in
theorem ld_X7_findSoonest : aLd yX7_findSoonest 1 := ⟨by decide +kernel, by decide +kernel, by decide +kernel⟩
set_option maxRecDepth 100000 in
theorem lk_X11_240 : aLV RX11 240 yX7_findSoonest cX7_findSoonest 6 none 1 := ⟨gm 1135 rfl rfl, gm 1136 rfl rfl, gm 1137 rfl rfl, gm 123 rfl rfl, gm 1138 rfl rfl, ld_X7_findSoonest⟩
set_option maxRecDepth 100000 in
theorem ld_X7_digits : aLd yX7_digits 0 := ⟨by decide +kernel, by decide +kernel, by decide +kernel⟩
set_option maxRecDepth 100000 in
theorem lk_X11_243 : aLV RX11 243 yX7_digits cX7_digits 1 (some .int) 0 := ⟨gm 1163 rfl rfl, gm 1164 rfl rfl, gm 1165 rfl rfl, gm 123 rfl rfl, gm 1166 rfl rfl, ld_X7_digits⟩
set_option maxRecDepth 100000 in
theorem ld_X7_worth : aLd yX7_worth 0 := ⟨by decide +kernel, by decide +kernel, by decide +kernel⟩
set_option maxRecDepth 100000 in
theorem lk_X11_246 : aLV RX11 246 yX7_worth cX7_worth 1 (some .int) 0 := ⟨gm 1167 rfl rfl, gm 1168 rfl rfl, gm 1169 rfl rfl, gm 123 rfl rfl, gm 1170 rfl rfl, ld_X7_worth⟩
set_option maxRecDepth 100000 in
theorem ld_X7_leastPossible : aLd yX7_leastPossible 1 := ⟨by decide +kernel, by decide +kernel, by decide +kernel⟩
set_option maxRecDepth 100000 in
theorem lk_X11_249 : aLV RX11 249 yX7_leastPossible cX7_leastPossible 7 (some .int) 1 := ⟨gm 1175 rfl rfl, gm 1176 rfl rfl, gm 1177 rfl rfl, gm 123 rfl rfl, gm 1178 rfl rfl, ld_X7_leastPossible⟩
set_option maxRecDepth 100000 in
theorem ld_X0_findWhomToWake : aLd yX0_findWhomToWake 0 := ⟨by decide +kernel, by decide +kernel, by decide +kernel⟩
set_option maxRecDepth 100000 in
theorem lk_X11_252 : aLV RX11 252 yX0_findWhomToWake cX0_findWhomToWake 4 (some .boolean) 0 := ⟨gm 1185 rfl rfl, gm 1186 rfl rfl, gm 1187 rfl rfl, gm 124 rfl rfl, gm 1188 rfl rfl, ld_X0_findWhomToWake⟩
set_option maxRecDepth 100000 in
theorem ld_X0_answer : aLd yX0_answer 0 := ⟨by decide +kernel, by decide +kernel, by decide +kernel⟩
set_option maxRecDepth 100000 in
theorem lk_X11_255 : aLV RX11 255 yX0_answer cX0_answer 1 (some .int) 0 := ⟨gm 1226 rfl rfl, gm 1227 rfl rfl, gm 1228 rfl rfl, gm 124 rfl rfl, gm 1229 rfl rfl, ld_X0_answer⟩
set_option maxRecDepth 100000 in
theorem ld_X0_worth : aLd yX0_worth 0 := ⟨by decide +kernel, by decide +kernel, by decide +kernel⟩
set_option maxRecDepth 100000 in
theorem lk_X11_258 : aLV RX11 258 yX0_worth cX0_worth 1 (some .int) 0 := ⟨gm 1230 rfl rfl, gm 1231 rfl rfl, gm 1232 rfl rfl, gm 124 rfl rfl, gm 1233 rfl rfl, ld_X0_worth⟩
set_option maxRecDepth 100000 in
theorem ld_X0_findWords : aLd yX0_findWords 0 := ⟨by decide +kernel, by decide +kernel, by decide +kernel⟩
set_option maxRecDepth 100000 in
theorem lk_X11_259 : aLV RX11 259 yX0_findWords cX0_findWords 2 (some .boolean) 0 := ⟨gm 1238 rfl rfl, gm 1239 rfl rfl, gm 1240 rfl rfl, gm 124 rfl rfl, gm 1241 rfl rfl, ld_X0_findWords⟩
set_option maxRecDepth 100000 in
theorem ld_X2_chanceOf : aLd yX2_chanceOf 1 := ⟨by decide +kernel, by decide +kernel, by decide +kernel⟩
set_option maxRecDepth 100000 in
theorem lk_X11_262 : aLV RX11 262 yX2_chanceOf cX2_chanceOf 4 (some .int) 1 := ⟨gm 1281 rfl rfl, gm 1282 rfl rfl, gm 1283 rfl rfl, gm 125 rfl rfl, gm 1284 rfl rfl, ld_X2_chanceOf⟩
set_option maxRecDepth 100000 in
theorem ld_X2_addHeard : aLd yX2_addHeard 2 := ⟨by decide +kernel, by decide +kernel, by decide +kernel⟩
set_option maxRecDepth 100000 in
theorem lk_X11_265 : aLV RX11 265 yX2_addHeard cX2_addHeard 3 (some .int) 2 := ⟨gm 1298 rfl rfl, gm 1299 rfl rfl, gm 1300 rfl rfl, gm 125 rfl rfl, gm 1301 rfl rfl, ld_X2_addHeard⟩
set_option maxRecDepth 100000 in
theorem ld_X2_addLook : aLd yX2_addLook 2 := ⟨by decide +kernel, by decide +kernel, by decide +kernel⟩
set_option maxRecDepth 100000 in
theorem lk_X11_269 : aLV RX11 269 yX2_addLook cX2_addLook 3 (some .int) 2 := ⟨gm 1307 rfl rfl, gm 1308 rfl rfl, gm 1309 rfl rfl, gm 125 rfl rfl, gm 1310 rfl rfl, ld_X2_addLook⟩
set_option maxRecDepth 100000 in
theorem ld_X2_fitting : aLd yX2_fitting 1 := ⟨by decide +kernel, by decide +kernel, by decide +kernel⟩
set_option maxRecDepth 100000 in
theorem lk_X11_273 : aLV RX11 273 yX2_fitting cX2_fitting 5 (some .int) 1 := ⟨gm 1315 rfl rfl, gm 1316 rfl rfl, gm 1317 rfl rfl, gm 125 rfl rfl, gm 1318 rfl rfl, ld_X2_fitting⟩
set_option maxRecDepth 100000 in
theorem ld_X2_bestBerth : aLd yX2_bestBerth 0 := ⟨by decide +kernel, by decide +kernel, by decide +kernel⟩
set_option maxRecDepth 100000 in
theorem lk_X11_276 : aLV RX11 276 yX2_bestBerth cX2_bestBerth 5 (some .int) 0 := ⟨gm 1329 rfl rfl, gm 1330 rfl rfl, gm 1331 rfl rfl, gm 125 rfl rfl, gm 1332 rfl rfl, ld_X2_bestBerth⟩
set_option maxRecDepth 100000 in
theorem ld_X2_headSets : aLd yX2_headSets 2 := ⟨by decide +kernel, by decide +kernel, by decide +kernel⟩
set_option maxRecDepth 100000 in
theorem lk_X11_279 : aLV RX11 279 yX2_headSets cX2_headSets 6 (some .int) 2 := ⟨gm 1343 rfl rfl, gm 1344 rfl rfl, gm 1345 rfl rfl, gm 125 rfl rfl, gm 1346 rfl rfl, ld_X2_headSets⟩
set_option maxRecDepth 100000 in
theorem lk_X11_282 : aLV RX11 282 yX1_sleepers cX1_sleepers 1 (some .int) 0 := ⟨gm 743 rfl rfl, gm 727 rfl rfl, gm 728 rfl rfl, gm 119 rfl rfl, gm 729 rfl rfl, ld_X1_sleepers⟩
set_option maxRecDepth 100000 in
theorem ld_X7_findBerths : aLd yX7_findBerths 0 := ⟨by decide +kernel, by decide +kernel, by decide +kernel⟩
set_option maxRecDepth 100000 in
theorem lk_X11_285 : aLV RX11 285 yX7_findBerths cX7_findBerths 7 none 0 := ⟨gm 1354 rfl rfl, gm 1355 rfl rfl, gm 1356 rfl rfl, gm 123 rfl rfl, gm 1357 rfl rfl, ld_X7_findBerths⟩
set_option maxRecDepth 100000 in
theorem lk_X11_288 : aLV RX11 288 yX3_lossByHand cX3_lossByHand 3 (some .int) 2 := ⟨gm 1371 rfl rfl, gm 861 rfl rfl, gm 862 rfl rfl, gm 121 rfl rfl, gm 863 rfl rfl, ld_X3_lossByHand⟩
set_option maxRecDepth 100000 in
theorem ld_X11_houseHas : aLd yX11_houseHas 4 := ⟨by decide +kernel, by decide +kernel, by decide +kernel⟩
set_option maxRecDepth 100000 in
theorem lk_X11_292 : aLV RX11 292 yX11_houseHas cX11_houseHas 6 (some .int) 4 := ⟨gm 1376 rfl rfl, gm 1378 rfl rfl, gm 48 rfl rfl, gm 114 rfl rfl, gm 1379 rfl rfl, ld_X11_houseHas⟩
set_option maxRecDepth 100000 in
theorem ld_X11_officerHas : aLd yX11_officerHas 3 := ⟨by decide +kernel, by decide +kernel, by decide +kernel⟩
set_option maxRecDepth 100000 in
theorem lk_X11_296 : aLS RX11 296 yX11_officerHas cX11_officerHas 3 (some .int) 3 := ⟨gm 1384 rfl rfl, gm 1385 rfl rfl, gm 114 rfl rfl, gm 1386 rfl rfl, ld_X11_officerHas⟩
set_option maxRecDepth 100000 in
theorem ld_X2_officersWaking : aLd yX2_officersWaking 1 := ⟨by decide +kernel, by decide +kernel, by decide +kernel⟩
set_option maxRecDepth 100000 in
theorem lk_X11_299 : aLV RX11 299 yX2_officersWaking cX2_officersWaking 7 (some .int) 1 := ⟨gm 1395 rfl rfl, gm 1396 rfl rfl, gm 1397 rfl rfl, gm 125 rfl rfl, gm 1398 rfl rfl, ld_X2_officersWaking⟩
set_option maxRecDepth 100000 in
theorem ld_X8_timesWoken : aLd yX8_timesWoken 1 := ⟨by decide +kernel, by decide +kernel, by decide +kernel⟩
set_option maxRecDepth 100000 in
theorem lk_X11_302 : aLV RX11 302 yX8_timesWoken cX8_timesWoken 2 (some .int) 1 := ⟨gm 1405 rfl rfl, gm 870 rfl rfl, gm 871 rfl rfl, gm 120 rfl rfl, gm 872 rfl rfl, ld_X8_timesWoken⟩
set_option maxRecDepth 100000 in
theorem ld_X8_areBeside : aLd yX8_areBeside 2 := ⟨by decide +kernel, by decide +kernel, by decide +kernel⟩
set_option maxRecDepth 100000 in
theorem lk_X11_305 : aLV RX11 305 yX8_areBeside cX8_areBeside 3 (some .boolean) 2 := ⟨gm 1418 rfl rfl, gm 879 rfl rfl, gm 880 rfl rfl, gm 120 rfl rfl, gm 881 rfl rfl, ld_X8_areBeside⟩
set_option maxRecDepth 100000 in
theorem lk_X11_309 : aLV RX11 309 yX1_allowedTens cX1_allowedTens 1 (some .int) 0 := ⟨gm 996 rfl rfl, gm 997 rfl rfl, gm 998 rfl rfl, gm 119 rfl rfl, gm 999 rfl rfl, ld_X1_allowedTens⟩
set_option maxRecDepth 100000 in
theorem ld_X3_lastFetched : aLd yX3_lastFetched 0 := ⟨by decide +kernel, by decide +kernel, by decide +kernel⟩
set_option maxRecDepth 100000 in
theorem lk_X11_312 : aLV RX11 312 yX3_lastFetched cX3_lastFetched 1 (some .int) 0 := ⟨gm 1427 rfl rfl, gm 1428 rfl rfl, gm 1429 rfl rfl, gm 121 rfl rfl, gm 1430 rfl rfl, ld_X3_lastFetched⟩
set_option maxRecDepth 100000 in
theorem ld_X6_keepImage : aLd yX6_keepImage 1 := ⟨by decide +kernel, by decide +kernel, by decide +kernel⟩
set_option maxRecDepth 100000 in
theorem lk_X11_315 : aLV RX11 315 yX6_keepImage cX6_keepImage 2 none 1 := ⟨gm 1435 rfl rfl, gm 1436 rfl rfl, gm 1437 rfl rfl, gm 122 rfl rfl, gm 1438 rfl rfl, ld_X6_keepImage⟩
set_option maxRecDepth 100000 in
theorem ld_X8_asleepInAll : aLd yX8_asleepInAll 0 := ⟨by decide +kernel, by decide +kernel, by decide +kernel⟩
set_option maxRecDepth 100000 in
theorem lk_X11_318 : aLV RX11 318 yX8_asleepInAll cX8_asleepInAll 1 (some .int) 0 := ⟨gm 1440 rfl rfl, gm 931 rfl rfl, gm 932 rfl rfl, gm 120 rfl rfl, gm 933 rfl rfl, ld_X8_asleepInAll⟩
set_option maxRecDepth 100000 in
theorem ld_X6_restoreImage : aLd yX6_restoreImage 1 := ⟨by decide +kernel, by decide +kernel, by decide +kernel⟩
set_option maxRecDepth 100000 in
theorem lk_X11_321 : aLV RX11 321 yX6_restoreImage cX6_restoreImage 2 (some .boolean) 1 := ⟨gm 1445 rfl rfl, gm 1446 rfl rfl, gm 1447 rfl rfl, gm 122 rfl rfl, gm 1448 rfl rfl, ld_X6_restoreImage⟩
set_option maxRecDepth 100000 in
theorem lk_X11_324 : aLV RX11 324 yX1_officers cX1_officers 1 (some .int) 0 := ⟨gm 1062 rfl rfl, gm 1063 rfl rfl, gm 1064 rfl rfl, gm 119 rfl rfl, gm 1065 rfl rfl, ld_X1_officers⟩
set_option maxRecDepth 100000 in
theorem ld_X9_linesCount : aLd yX9_linesCount 0 := ⟨by decide +kernel, by decide +kernel, by decide +kernel⟩
set_option maxRecDepth 100000 in
theorem lk_X11_327 : aLV RX11 327 yX9_linesCount cX9_linesCount 1 (some .int) 0 := ⟨gm 1453 rfl rfl, gm 1454 rfl rfl, gm 1455 rfl rfl, gm 116 rfl rfl, gm 1456 rfl rfl, ld_X9_linesCount⟩
set_option maxRecDepth 100000 in
theorem ld_X2_heard : aLd yX2_heard 0 := ⟨by decide +kernel, by decide +kernel, by decide +kernel⟩
set_option maxRecDepth 100000 in
theorem lk_X11_330 : aLV RX11 330 yX2_heard cX2_heard 1 (some .int) 0 := ⟨gm 1457 rfl rfl, gm 1458 rfl rfl, gm 1459 rfl rfl, gm 125 rfl rfl, gm 1460 rfl rfl, ld_X2_heard⟩
set_option maxRecDepth 100000 in
theorem ld_X2_looks : aLd yX2_looks 0 := ⟨by decide +kernel, by decide +kernel, by decide +kernel⟩
set_option maxRecDepth 100000 in
theorem lk_X11_333 : aLV RX11 333 yX2_looks cX2_looks 1 (some .int) 0 := ⟨gm 1461 rfl rfl, gm 1462 rfl rfl, gm 1463 rfl rfl, gm 125 rfl rfl, gm 1464 rfl rfl, ld_X2_looks⟩
set_option maxRecDepth 100000 in
theorem ld_X1_read : aLd yX1_read 1 := ⟨by decide +kernel, by decide +kernel, by decide +kernel⟩
set_option maxRecDepth 100000 in
theorem lk_X11_336 : aLV RX11 336 yX1_read cX1_read 5 (some .boolean) 1 := ⟨gm 509 rfl rfl, gm 510 rfl rfl, gm 511 rfl rfl, gm 119 rfl rfl, gm 512 rfl rfl, ld_X1_read⟩
set_option maxRecDepth 100000 in
theorem ld_X9_lawDraft : aLd yX9_lawDraft 0 := ⟨by decide +kernel, by decide +kernel, by decide +kernel⟩
set_option maxRecDepth 100000 in
theorem lk_X11_340 : aLV RX11 340 yX9_lawDraft cX9_lawDraft 1 (some (.object "WokenBorder$Law")) 0 := ⟨gm 619 rfl rfl, gm 620 rfl rfl, gm 621 rfl rfl, gm 116 rfl rfl, gm 622 rfl rfl, ld_X9_lawDraft⟩
set_option maxRecDepth 100000 in
theorem ld_X4_read : aLd yX4_read 1 := ⟨by decide +kernel, by decide +kernel, by decide +kernel⟩
set_option maxRecDepth 100000 in
theorem lk_X11_344 : aLV RX11 344 yX4_read cX4_read 3 (some .boolean) 1 := ⟨gm 623 rfl rfl, gm 624 rfl rfl, gm 625 rfl rfl, gm 117 rfl rfl, gm 626 rfl rfl, ld_X4_read⟩
set_option maxRecDepth 100000 in
theorem ld_X9_linesDraft : aLd yX9_linesDraft 0 := ⟨by decide +kernel, by decide +kernel, by decide +kernel⟩
set_option maxRecDepth 100000 in
theorem lk_X11_347 : aLV RX11 347 yX9_linesDraft cX9_linesDraft 1 (some (.object "WokenBorder$Lines")) 0 := ⟨gm 676 rfl rfl, gm 677 rfl rfl, gm 678 rfl rfl, gm 116 rfl rfl, gm 679 rfl rfl, ld_X9_linesDraft⟩
set_option maxRecDepth 100000 in
theorem ld_X5_read : aLd yX5_read 1 := ⟨by decide +kernel, by decide +kernel, by decide +kernel⟩
set_option maxRecDepth 100000 in
theorem lk_X11_351 : aLV RX11 351 yX5_read cX5_read 2 (some .boolean) 1 := ⟨gm 680 rfl rfl, gm 681 rfl rfl, gm 682 rfl rfl, gm 118 rfl rfl, gm 683 rfl rfl, ld_X5_read⟩
set_option maxRecDepth 100000 in
theorem ld_X1_copyFrom : aLd yX1_copyFrom 1 := ⟨by decide +kernel, by decide +kernel, by decide +kernel⟩
set_option maxRecDepth 100000 in
theorem lk_X11_352 : aLV RX11 352 yX1_copyFrom cX1_copyFrom 2 none 1 := ⟨gm 715 rfl rfl, gm 716 rfl rfl, gm 717 rfl rfl, gm 119 rfl rfl, gm 718 rfl rfl, ld_X1_copyFrom⟩
set_option maxRecDepth 100000 in
theorem ld_X8_begin : aLd yX8_begin 1 := ⟨by decide +kernel, by decide +kernel, by decide +kernel⟩
set_option maxRecDepth 100000 in
theorem lk_X11_354 : aLV RX11 354 yX8_begin cX8_begin 4 none 1 := ⟨gm 719 rfl rfl, gm 720 rfl rfl, gm 721 rfl rfl, gm 120 rfl rfl, gm 722 rfl rfl, ld_X8_begin⟩
set_option maxRecDepth 100000 in
theorem ld_X6_clear : aLd yX6_clear 0 := ⟨by decide +kernel, by decide +kernel, by decide +kernel⟩
set_option maxRecDepth 100000 in
theorem lk_X11_357 : aLV RX11 357 yX6_clear cX6_clear 1 none 0 := ⟨gm 735 rfl rfl, gm 736 rfl rfl, gm 737 rfl rfl, gm 122 rfl rfl, gm 738 rfl rfl, ld_X6_clear⟩
set_option maxRecDepth 100000 in
theorem ld_X2_clear : aLd yX2_clear 0 := ⟨by decide +kernel, by decide +kernel, by decide +kernel⟩
set_option maxRecDepth 100000 in
theorem lk_X11_360 : aLV RX11 360 yX2_clear cX2_clear 1 none 0 := ⟨gm 739 rfl rfl, gm 740 rfl rfl, gm 741 rfl rfl, gm 125 rfl rfl, gm 742 rfl rfl, ld_X2_clear⟩
set_option maxRecDepth 100000 in
theorem ld_X11_writeLog : aLd yX11_writeLog 2 := ⟨by decide +kernel, by decide +kernel, by decide +kernel⟩
set_option maxRecDepth 100000 in
theorem lk_X11_361 : aLV RX11 361 yX11_writeLog cX11_writeLog 3 none 2 := ⟨gm 992 rfl rfl, gm 994 rfl rfl, gm 26 rfl rfl, gm 114 rfl rfl, gm 995 rfl rfl, ld_X11_writeLog⟩
set_option maxRecDepth 100000 in
theorem ld_X6_write : aLd yX6_write 5 := ⟨by decide +kernel, by decide +kernel, by decide +kernel⟩
set_option maxRecDepth 100000 in
theorem lk_X11_365 : aLV RX11 365 yX6_write cX6_write 7 none 5 := ⟨gm 1004 rfl rfl, gm 1005 rfl rfl, gm 1006 rfl rfl, gm 122 rfl rfl, gm 1007 rfl rfl, ld_X6_write⟩
set_option maxRecDepth 100000 in
theorem ld_X11_drawOfficer : aLd yX11_drawOfficer 0 := ⟨by decide +kernel, by decide +kernel, by decide +kernel⟩
set_option maxRecDepth 100000 in
theorem lk_X11_369 : aLV RX11 369 yX11_drawOfficer cX11_drawOfficer 4 (some .int) 0 := ⟨gm 1048 rfl rfl, gm 1050 rfl rfl, gm 28 rfl rfl, gm 114 rfl rfl, gm 1051 rfl rfl, ld_X11_drawOfficer⟩
set_option maxRecDepth 100000 in
theorem ld_X11_draw : aLd yX11_draw 1 := ⟨by decide +kernel, by decide +kernel, by decide +kernel⟩
set_option maxRecDepth 100000 in
theorem lk_X11_372 : aLV RX11 372 yX11_draw cX11_draw 2 (some .int) 1 := ⟨gm 1056 rfl rfl, gm 1058 rfl rfl, gm 29 rfl rfl, gm 114 rfl rfl, gm 1059 rfl rfl, ld_X11_draw⟩
set_option maxRecDepth 100000 in
theorem ld_X8_layDown : aLd yX8_layDown 1 := ⟨by decide +kernel, by decide +kernel, by decide +kernel⟩
set_option maxRecDepth 100000 in
theorem lk_X11_375 : aLV RX11 375 yX8_layDown cX8_layDown 2 none 1 := ⟨gm 1068 rfl rfl, gm 927 rfl rfl, gm 928 rfl rfl, gm 120 rfl rfl, gm 929 rfl rfl, ld_X8_layDown⟩
set_option maxRecDepth 100000 in
theorem lk_X11_378 : aLV RX11 378 yX1_allWeights cX1_allWeights 3 (some .int) 0 := ⟨gm 1052 rfl rfl, gm 1053 rfl rfl, gm 1054 rfl rfl, gm 119 rfl rfl, gm 1055 rfl rfl, ld_X1_allWeights⟩
set_option maxRecDepth 100000 in
theorem ld_X3_lossOfAllByHand : aLd yX3_lossOfAllByHand 1 := ⟨by decide +kernel, by decide +kernel, by decide +kernel⟩
set_option maxRecDepth 100000 in
theorem lk_X11_385 : aLV RX11 385 yX3_lossOfAllByHand cX3_lossOfAllByHand 4 (some .int) 1 := ⟨gm 1380 rfl rfl, gm 1381 rfl rfl, gm 1382 rfl rfl, gm 121 rfl rfl, gm 1383 rfl rfl, ld_X3_lossOfAllByHand⟩
set_option maxRecDepth 100000 in
theorem lk_X12_3 : aLO RX12 3 := ⟨gm 1550 rfl rfl, gm 145 rfl rfl, gm 146 rfl rfl⟩
set_option maxRecDepth 100000 in
theorem ld_J0_length_8abf5 : aLd yJ0_length_8abf5 0 := ⟨by decide +kernel, by decide +kernel, by decide +kernel⟩
set_option maxRecDepth 100000 in
theorem lk_X12_102 : aLV RX12 102 yJ0_length_8abf5 cJ0_length_8abf5 1 (some .int) 0 := ⟨gm 1783 rfl rfl, gm 1784 rfl rfl, gm 1785 rfl rfl, gm 128 rfl rfl, gm 1786 rfl rfl, ld_J0_length_8abf5⟩
set_option maxRecDepth 100000 in
theorem lk_X12_108 : aLV RX12 108 yJ0_charAt_5068e cJ0_charAt_5068e 2 (some .char) 1 := ⟨gm 1794 rfl rfl, gm 542 rfl rfl, gm 543 rfl rfl, gm 128 rfl rfl, gm 544 rfl rfl, ld_J0_charAt_5068e⟩
set_option maxRecDepth 100000 in
theorem ld_X12_bytesIn : aLd yX12_bytesIn 1 := ⟨by decide +kernel, by decide +kernel, by decide +kernel⟩
set_option maxRecDepth 100000 in
theorem lk_X12_114 : aLS RX12 114 yX12_bytesIn cX12_bytesIn 3 (some .int) 1 := ⟨gm 1736 rfl rfl, gm 1737 rfl rfl, gm 126 rfl rfl, gm 1738 rfl rfl, ld_X12_bytesIn⟩
set_option maxRecDepth 100000 in
theorem ld_X12_put : aLd yX12_put 1 := ⟨by decide +kernel, by decide +kernel, by decide +kernel⟩
set_option maxRecDepth 100000 in
theorem lk_X12_118 : aLV RX12 118 yX12_put cX12_put 3 none 1 := ⟨gm 1739 rfl rfl, gm 1741 rfl rfl, gm 50 rfl rfl, gm 126 rfl rfl, gm 1742 rfl rfl, ld_X12_put⟩
set_option maxRecDepth 100000 in
theorem ld_X12_fails : aLd yX12_fails 0 := ⟨by decide +kernel, by decide +kernel, by decide +kernel⟩
set_option maxRecDepth 100000 in
theorem lk_X12_137 : aLV RX12 137 yX12_fails cX12_fails 1 (some .boolean) 0 := ⟨gm 1774 rfl rfl, gm 1776 rfl rfl, gm 55 rfl rfl, gm 126 rfl rfl, gm 1777 rfl rfl, ld_X12_fails⟩
set_option maxRecDepth 100000 in
theorem ld_X12_look : aLd yX12_look 0 := ⟨by decide +kernel, by decide +kernel, by decide +kernel⟩
set_option maxRecDepth 100000 in
theorem lk_X12_141 : aLV RX12 141 yX12_look cX12_look 1 (some .int) 0 := ⟨gm 1770 rfl rfl, gm 1772 rfl rfl, gm 54 rfl rfl, gm 126 rfl rfl, gm 1773 rfl rfl, ld_X12_look⟩
set_option maxRecDepth 100000 in
theorem ld_J9_min_f86c9 : aLd yJ9_min_f86c9 2 := ⟨by decide +kernel, by decide +kernel, by decide +kernel⟩
set_option maxRecDepth 100000 in
theorem lk_X12_148 : aLS RX12 148 yJ9_min_f86c9 cJ9_min_f86c9 4 (some .long) 2 := ⟨gm 1870 rfl rfl, gm 903 rfl rfl, gm 132 rfl rfl, gm 904 rfl rfl, ld_J9_min_f86c9⟩
set_option maxRecDepth 100000 in
theorem ld_J9_max_f86c9 : aLd yJ9_max_f86c9 2 := ⟨by decide +kernel, by decide +kernel, by decide +kernel⟩
set_option maxRecDepth 100000 in
theorem lk_X12_154 : aLS RX12 154 yJ9_max_f86c9 cJ9_max_f86c9 4 (some .long) 2 := ⟨gm 1871 rfl rfl, gm 906 rfl rfl, gm 132 rfl rfl, gm 907 rfl rfl, ld_J9_max_f86c9⟩
set_option maxRecDepth 100000 in
theorem ld_X12_isAmong : aLd yX12_isAmong 2 := ⟨by decide +kernel, by decide +kernel, by decide +kernel⟩
set_option maxRecDepth 100000 in
theorem lk_X12_157 : aLS RX12 157 yX12_isAmong cX12_isAmong 3 (some .boolean) 2 := ⟨gm 1830 rfl rfl, gm 1831 rfl rfl, gm 126 rfl rfl, gm 1832 rfl rfl, ld_X12_isAmong⟩
set_option maxRecDepth 100000 in
theorem ld_X12_goesIn : aLd yX12_goesIn 0 := ⟨by decide +kernel, by decide +kernel, by decide +kernel⟩
set_option maxRecDepth 100000 in
theorem lk_X12_161 : aLV RX12 161 yX12_goesIn cX12_goesIn 1 (some .boolean) 0 := ⟨gm 1861 rfl rfl, gm 1863 rfl rfl, gm 70 rfl rfl, gm 126 rfl rfl, gm 1864 rfl rfl, ld_X12_goesIn⟩
set_option maxRecDepth 100000 in
theorem ld_X12_sum : aLd yX12_sum 0 := ⟨by decide +kernel, by decide +kernel, by decide +kernel⟩
set_option maxRecDepth 100000 in
theorem lk_X12_164 : aLV RX12 164 yX12_sum cX12_sum 5 (some .int) 0 := ⟨gm 1849 rfl rfl, gm 1851 rfl rfl, gm 67 rfl rfl, gm 126 rfl rfl, gm 1852 rfl rfl, ld_X12_sum⟩
set_option maxRecDepth 100000 in
theorem ld_X12_takes : aLd yX12_takes 1 := ⟨by decide +kernel, by decide +kernel, by decide +kernel⟩
set_option maxRecDepth 100000 in
theorem lk_X12_167 : aLV RX12 167 yX12_takes cX12_takes 2 (some .boolean) 1 := ⟨gm 1833 rfl rfl, gm 1835 rfl rfl, gm 63 rfl rfl, gm 126 rfl rfl, gm 1836 rfl rfl, ld_X12_takes⟩
set_option maxRecDepth 100000 in
theorem ld_X12_isDigit : aLd yX12_isDigit 0 := ⟨by decide +kernel, by decide +kernel, by decide +kernel⟩
set_option maxRecDepth 100000 in
theorem lk_X12_171 : aLV RX12 171 yX12_isDigit cX12_isDigit 1 (some .boolean) 0 := ⟨gm 1808 rfl rfl, gm 1810 rfl rfl, gm 58 rfl rfl, gm 126 rfl rfl, gm 1811 rfl rfl, ld_X12_isDigit⟩
set_option maxRecDepth 100000 in
theorem ld_X12_atom : aLd yX12_atom 0 := ⟨by decide +kernel, by decide +kernel, by decide +kernel⟩
set_option maxRecDepth 100000 in
theorem lk_X12_174 : aLV RX12 174 yX12_atom cX12_atom 4 (some .int) 0 := ⟨gm 1857 rfl rfl, gm 1859 rfl rfl, gm 69 rfl rfl, gm 126 rfl rfl, gm 1860 rfl rfl, ld_X12_atom⟩
set_option maxRecDepth 100000 in
theorem ld_X12_within : aLd yX12_within 1 := ⟨by decide +kernel, by decide +kernel, by decide +kernel⟩
set_option maxRecDepth 100000 in
theorem lk_X12_177 : aLS RX12 177 yX12_within cX12_within 2 (some .int) 1 := ⟨gm 1865 rfl rfl, gm 1866 rfl rfl, gm 126 rfl rfl, gm 1867 rfl rfl, ld_X12_within⟩
set_option maxRecDepth 100000 in
theorem ld_X12_term : aLd yX12_term 0 := ⟨by decide +kernel, by decide +kernel, by decide +kernel⟩
set_option maxRecDepth 100000 in
theorem lk_X12_181 : aLV RX12 181 yX12_term cX12_term 5 (some .int) 0 := ⟨gm 1853 rfl rfl, gm 1855 rfl rfl, gm 68 rfl rfl, gm 126 rfl rfl, gm 1856 rfl rfl, ld_X12_term⟩
set_option maxRecDepth 100000 in
theorem ld_X12_isSign : aLd yX12_isSign 1 := ⟨by decide +kernel, by decide +kernel, by decide +kernel⟩
set_option maxRecDepth 100000 in
theorem lk_X12_184 : aLS RX12 184 yX12_isSign cX12_isSign 1 (some .boolean) 1 := ⟨gm 1872 rfl rfl, gm 1873 rfl rfl, gm 126 rfl rfl, gm 1874 rfl rfl, ld_X12_isSign⟩
set_option maxRecDepth 100000 in
theorem ld_X12_unit : aLd yX12_unit 0 := ⟨by decide +kernel, by decide +kernel, by decide +kernel⟩
set_option maxRecDepth 100000 in
theorem lk_X12_187 : aLV RX12 187 yX12_unit cX12_unit 3 (some .boolean) 0 := ⟨gm 1875 rfl rfl, gm 1877 rfl rfl, gm 71 rfl rfl, gm 126 rfl rfl, gm 1878 rfl rfl, ld_X12_unit⟩
set_option maxRecDepth 100000 in
theorem ld_X12_condition : aLd yX12_condition 2 := ⟨by decide +kernel, by decide +kernel, by decide +kernel⟩
set_option maxRecDepth 100000 in
theorem lk_X12_190 : aLV RX12 190 yX12_condition cX12_condition 5 (some .boolean) 2 := ⟨gm 1837 rfl rfl, gm 1839 rfl rfl, gm 64 rfl rfl, gm 126 rfl rfl, gm 1840 rfl rfl, ld_X12_condition⟩
set_option maxRecDepth 100000 in
theorem ld_X12_compares : aLd yX12_compares 2 := ⟨by decide +kernel, by decide +kernel, by decide +kernel⟩
set_option maxRecDepth 100000 in
theorem lk_X12_194 : aLV RX12 194 yX12_compares cX12_compares 6 (some .boolean) 2 := ⟨gm 1845 rfl rfl, gm 1847 rfl rfl, gm 66 rfl rfl, gm 126 rfl rfl, gm 1848 rfl rfl, ld_X12_compares⟩
set_option maxRecDepth 100000 in
theorem ld_X12_part : aLd yX12_part 2 := ⟨by decide +kernel, by decide +kernel, by decide +kernel⟩
set_option maxRecDepth 100000 in
theorem lk_X12_197 : aLV RX12 197 yX12_part cX12_part 5 (some .boolean) 2 := ⟨gm 1841 rfl rfl, gm 1843 rfl rfl, gm 65 rfl rfl, gm 126 rfl rfl, gm 1844 rfl rfl, ld_X12_part⟩
set_option maxRecDepth 100000 in
theorem ld_X12_starts : aLd yX12_starts 3 := ⟨by decide +kernel, by decide +kernel, by decide +kernel⟩
set_option maxRecDepth 100000 in
theorem lk_X12_210 : aLV RX12 210 yX12_starts cX12_starts 4 none 3 := ⟨gm 1759 rfl rfl, gm 1761 rfl rfl, gm 52 rfl rfl, gm 126 rfl rfl, gm 1762 rfl rfl, ld_X12_starts⟩
set_option maxRecDepth 100000 in
theorem ld_X12_clause : aLd yX12_clause 0 := ⟨by decide +kernel, by decide +kernel, by decide +kernel⟩
set_option maxRecDepth 100000 in
theorem lk_X12_214 : aLV RX12 214 yX12_clause cX12_clause 5 none 0 := ⟨gm 1826 rfl rfl, gm 1828 rfl rfl, gm 62 rfl rfl, gm 126 rfl rfl, gm 1829 rfl rfl, ld_X12_clause⟩
set_option maxRecDepth 100000 in
theorem ld_X12_here : aLd yX12_here 0 := ⟨by decide +kernel, by decide +kernel, by decide +kernel⟩
set_option maxRecDepth 100000 in
theorem lk_X12_217 : aLV RX12 217 yX12_here cX12_here 1 (some .int) 0 := ⟨gm 1812 rfl rfl, gm 1814 rfl rfl, gm 59 rfl rfl, gm 126 rfl rfl, gm 1815 rfl rfl, ld_X12_here⟩
set_option maxRecDepth 100000 in
theorem ld_X12_isIn : aLd yX12_isIn 3 := ⟨by decide +kernel, by decide +kernel, by decide +kernel⟩
set_option maxRecDepth 100000 in
theorem lk_X12_220 : aLS RX12 220 yX12_isIn cX12_isIn 6 (some .boolean) 3 := ⟨gm 1752 rfl rfl, gm 1753 rfl rfl, gm 126 rfl rfl, gm 1754 rfl rfl, ld_X12_isIn⟩
set_option maxRecDepth 100000 in
theorem ld_X12_usual : aLd yX12_usual 2 := ⟨by decide +kernel, by decide +kernel, by decide +kernel⟩
set_option maxRecDepth 100000 in
theorem lk_X12_224 : aLS RX12 224 yX12_usual cX12_usual 2 (some .int) 2 := ⟨gm 1763 rfl rfl, gm 1764 rfl rfl, gm 126 rfl rfl, gm 1765 rfl rfl, ld_X12_usual⟩
set_option maxRecDepth 100000 in
theorem ld_X12_spotOf : aLd yX12_spotOf 2 := ⟨by decide +kernel, by decide +kernel, by decide +kernel⟩
set_option maxRecDepth 100000 in
theorem lk_X12_228 : aLS RX12 228 yX12_spotOf cX12_spotOf 3 (some .int) 2 := ⟨gm 1791 rfl rfl, gm 1792 rfl rfl, gm 126 rfl rfl, gm 1793 rfl rfl, ld_X12_spotOf⟩
set_option maxRecDepth 100000 in
theorem ld_X12_has : aLd yX12_has 2 := ⟨by decide +kernel, by decide +kernel, by decide +kernel⟩
set_option maxRecDepth 100000 in
theorem lk_X12_232 : aLS RX12 232 yX12_has cX12_has 2 (some .boolean) 2 := ⟨gm 1795 rfl rfl, gm 1796 rfl rfl, gm 126 rfl rfl, gm 1797 rfl rfl, ld_X12_has⟩
set_option maxRecDepth 100000 in
theorem ld_X12_leastOf : aLd yX12_leastOf 2 := ⟨by decide +kernel, by decide +kernel, by decide +kernel⟩
set_option maxRecDepth 100000 in
theorem lk_X12_236 : aLS RX12 236 yX12_leastOf cX12_leastOf 2 (some .int) 2 := ⟨gm 1798 rfl rfl, gm 1799 rfl rfl, gm 126 rfl rfl, gm 1800 rfl rfl, ld_X12_leastOf⟩
set_option maxRecDepth 100000 in
theorem ld_X12_mostOf : aLd yX12_mostOf 2 := ⟨by decide +kernel, by decide +kernel, by decide +kernel⟩
set_option maxRecDepth 100000 in
theorem lk_X12_239 : aLS RX12 239 yX12_mostOf cX12_mostOf 2 (some .int) 2 := ⟨gm 1801 rfl rfl, gm 1802 rfl rfl, gm 126 rfl rfl, gm 1803 rfl rfl, ld_X12_mostOf⟩
set_option maxRecDepth 100000 in
theorem ld_X12_number : aLd yX12_number 2 := ⟨by decide +kernel, by decide +kernel, by decide +kernel⟩
set_option maxRecDepth 100000 in
theorem lk_X12_242 : aLV RX12 242 yX12_number cX12_number 5 (some .int) 2 := ⟨gm 1804 rfl rfl, gm 1806 rfl rfl, gm 57 rfl rfl, gm 126 rfl rfl, gm 1807 rfl rfl, ld_X12_number⟩
set_option maxRecDepth 100000 in
theorem ld_X12_readItems : aLd yX12_readItems 4 := ⟨by decide +kernel, by decide +kernel, by decide +kernel⟩
set_option maxRecDepth 100000 in
theorem lk_X12_256 : aLV RX12 256 yX12_readItems cX12_readItems 7 none 4 := ⟨gm 1779 rfl rfl, gm 1781 rfl rfl, gm 56 rfl rfl, gm 126 rfl rfl, gm 1782 rfl rfl, ld_X12_readItems⟩
set_option maxRecDepth 100000 in
theorem ld_X12_readClause : aLd yX12_readClause 0 := ⟨by decide +kernel, by decide +kernel, by decide +kernel⟩
set_option maxRecDepth 100000 in
theorem lk_X12_264 : aLV RX12 264 yX12_readClause cX12_readClause 3 none 0 := ⟨gm 1766 rfl rfl, gm 1768 rfl rfl, gm 53 rfl rfl, gm 126 rfl rfl, gm 1769 rfl rfl, ld_X12_readClause⟩
set_option maxRecDepth 100000 in
theorem ld_X12_isWhole : aLd yX12_isWhole 0 := ⟨by decide +kernel, by decide +kernel, by decide +kernel⟩
set_option maxRecDepth 100000 in
theorem lk_X12_267 : aLV RX12 267 yX12_isWhole cX12_isWhole 3 (some .boolean) 0 := ⟨gm 1818 rfl rfl, gm 1820 rfl rfl, gm 60 rfl rfl, gm 126 rfl rfl, gm 1821 rfl rfl, ld_X12_isWhole⟩
set_option maxRecDepth 100000 in
theorem ld_X12_digit : aLd yX12_digit 1 := ⟨by decide +kernel, by decide +kernel, by decide +kernel⟩
set_option maxRecDepth 100000 in
theorem lk_X12_272 : aLV RX12 272 yX12_digit cX12_digit 3 (some .int) 1 := ⟨gm 1888 rfl rfl, gm 1890 rfl rfl, gm 74 rfl rfl, gm 126 rfl rfl, gm 1891 rfl rfl, ld_X12_digit⟩
set_option maxRecDepth 100000 in
theorem ld_X12_readStep : aLd yX12_readStep 1 := ⟨by decide +kernel, by decide +kernel, by decide +kernel⟩
set_option maxRecDepth 100000 in
theorem lk_X12_275 : aLV RX12 275 yX12_readStep cX12_readStep 3 none 1 := ⟨gm 1883 rfl rfl, gm 1885 rfl rfl, gm 73 rfl rfl, gm 126 rfl rfl, gm 1886 rfl rfl, ld_X12_readStep⟩
set_option maxRecDepth 100000 in
theorem ld_X12_readCar : aLd yX12_readCar 0 := ⟨by decide +kernel, by decide +kernel, by decide +kernel⟩
set_option maxRecDepth 100000 in
theorem lk_X12_280 : aLV RX12 280 yX12_readCar cX12_readCar 2 none 0 := ⟨gm 1755 rfl rfl, gm 1757 rfl rfl, gm 51 rfl rfl, gm 126 rfl rfl, gm 1758 rfl rfl, ld_X12_readCar⟩
set_option maxRecDepth 100000 in
theorem ld_X12_goThrough : aLd yX12_goThrough 3 := ⟨by decide +kernel, by decide +kernel, by decide +kernel⟩
set_option maxRecDepth 100000 in
theorem lk_X12_283 : aLV RX12 283 yX12_goThrough cX12_goThrough 4 none 3 := ⟨gm 1822 rfl rfl, gm 1824 rfl rfl, gm 61 rfl rfl, gm 126 rfl rfl, gm 1825 rfl rfl, ld_X12_goThrough⟩
set_option maxRecDepth 100000 in
theorem ld_X12_readLines : aLd yX12_readLines 0 := ⟨by decide +kernel, by decide +kernel, by decide +kernel⟩
set_option maxRecDepth 100000 in
theorem lk_X12_286 : aLV RX12 286 yX12_readLines cX12_readLines 3 none 0 := ⟨gm 1879 rfl rfl, gm 1881 rfl rfl, gm 72 rfl rfl, gm 126 rfl rfl, gm 1882 rfl rfl, ld_X12_readLines⟩
set_option maxRecDepth 100000 in
theorem lk_X12_295 : aLV RX12 295 yX12_fault cX12_fault 2 (some .int) 1 := ⟨gm 1896 rfl rfl, gm 1748 rfl rfl, gm 1749 rfl rfl, gm 126 rfl rfl, gm 1750 rfl rfl, ld_X12_fault⟩
set_option maxRecDepth 100000 in
theorem ld_X12_inBerth : aLd yX12_inBerth 2 := ⟨by decide +kernel, by decide +kernel, by decide +kernel⟩
set_option maxRecDepth 100000 in
theorem lk_X12_318 : aLV RX12 318 yX12_inBerth cX12_inBerth 4 (some .int) 2 := ⟨gm 1976 rfl rfl, gm 1978 rfl rfl, gm 86 rfl rfl, gm 126 rfl rfl, gm 1979 rfl rfl, ld_X12_inBerth⟩
set_option maxRecDepth 100000 in
theorem ld_X12_snoresBeside : aLd yX12_snoresBeside 2 := ⟨by decide +kernel, by decide +kernel, by decide +kernel⟩
set_option maxRecDepth 100000 in
theorem lk_X12_322 : aLV RX12 322 yX12_snoresBeside cX12_snoresBeside 6 (some .int) 2 := ⟨gm 1972 rfl rfl, gm 1974 rfl rfl, gm 85 rfl rfl, gm 126 rfl rfl, gm 1975 rfl rfl, ld_X12_snoresBeside⟩
set_option maxRecDepth 100000 in
theorem lk_X12_325 : aLm RX12 325 Lib.Math.min.name Lib.Math.min.code 2 := ⟨gm 1980 rfl rfl, gm 911 rfl rfl, gm 132 rfl rfl, gm 912 rfl rfl⟩
set_option maxRecDepth 100000 in
theorem lk_X12_327 : aLm RX12 327 Lib.Math.max.name Lib.Math.max.code 2 := ⟨gm 1981 rfl rfl, gm 914 rfl rfl, gm 132 rfl rfl, gm 915 rfl rfl⟩
set_option maxRecDepth 100000 in
theorem ld_X12_sleepOf : aLd yX12_sleepOf 4 := ⟨by decide +kernel, by decide +kernel, by decide +kernel⟩
set_option maxRecDepth 100000 in
theorem lk_X12_329 : aLV RX12 329 yX12_sleepOf cX12_sleepOf 6 (some .int) 4 := ⟨gm 1968 rfl rfl, gm 1970 rfl rfl, gm 84 rfl rfl, gm 126 rfl rfl, gm 1971 rfl rfl, ld_X12_sleepOf⟩
set_option maxRecDepth 100000 in
theorem ld_X12_paperAt : aLd yX12_paperAt 2 := ⟨by decide +kernel, by decide +kernel, by decide +kernel⟩
set_option maxRecDepth 100000 in
theorem lk_X12_345 : aLV RX12 345 yX12_paperAt cX12_paperAt 4 (some .int) 2 := ⟨gm 2017 rfl rfl, gm 2019 rfl rfl, gm 92 rfl rfl, gm 126 rfl rfl, gm 2020 rfl rfl, ld_X12_paperAt⟩
set_option maxRecDepth 100000 in
theorem ld_X12_turnOf : aLd yX12_turnOf 3 := ⟨by decide +kernel, by decide +kernel, by decide +kernel⟩
set_option maxRecDepth 100000 in
theorem lk_X12_348 : aLV RX12 348 yX12_turnOf cX12_turnOf 4 (some .int) 3 := ⟨gm 2021 rfl rfl, gm 2023 rfl rfl, gm 93 rfl rfl, gm 126 rfl rfl, gm 2024 rfl rfl, ld_X12_turnOf⟩
set_option maxRecDepth 100000 in
theorem ld_X12_wakes : aLd yX12_wakes 4 := ⟨by decide +kernel, by decide +kernel, by decide +kernel⟩
set_option maxRecDepth 100000 in
theorem lk_X12_352 : aLV RX12 352 yX12_wakes cX12_wakes 6 (some .int) 4 := ⟨gm 1964 rfl rfl, gm 1966 rfl rfl, gm 83 rfl rfl, gm 126 rfl rfl, gm 1967 rfl rfl, ld_X12_wakes⟩
set_option maxRecDepth 100000 in
theorem ld_X12_waitOf : aLd yX12_waitOf 4 := ⟨by decide +kernel, by decide +kernel, by decide +kernel⟩
set_option maxRecDepth 100000 in
theorem lk_X12_355 : aLV RX12 355 yX12_waitOf cX12_waitOf 7 (some .int) 4 := ⟨gm 2025 rfl rfl, gm 2027 rfl rfl, gm 94 rfl rfl, gm 126 rfl rfl, gm 2028 rfl rfl, ld_X12_waitOf⟩
set_option maxRecDepth 100000 in
theorem ld_X12_copy : aLd yX12_copy 2 := ⟨by decide +kernel, by decide +kernel, by decide +kernel⟩
set_option maxRecDepth 100000 in
theorem lk_X12_359 : aLS RX12 359 yX12_copy cX12_copy 4 none 2 := ⟨gm 2073 rfl rfl, gm 2074 rfl rfl, gm 126 rfl rfl, gm 2075 rfl rfl, ld_X12_copy⟩
set_option maxRecDepth 100000 in
theorem ld_X12_goBorder : aLd yX12_goBorder 2 := ⟨by decide +kernel, by decide +kernel, by decide +kernel⟩
set_option maxRecDepth 100000 in
theorem lk_X12_363 : aLV RX12 363 yX12_goBorder cX12_goBorder 8 none 2 := ⟨gm 2013 rfl rfl, gm 2015 rfl rfl, gm 91 rfl rfl, gm 126 rfl rfl, gm 2016 rfl rfl, ld_X12_goBorder⟩
set_option maxRecDepth 100000 in
theorem ld_X12_isSleeper : aLd yX12_isSleeper 1 := ⟨by decide +kernel, by decide +kernel, by decide +kernel⟩
set_option maxRecDepth 100000 in
theorem lk_X12_369 : aLV RX12 369 yX12_isSleeper cX12_isSleeper 2 (some .boolean) 1 := ⟨gm 1906 rfl rfl, gm 1908 rfl rfl, gm 75 rfl rfl, gm 126 rfl rfl, gm 1909 rfl rfl, ld_X12_isSleeper⟩
set_option maxRecDepth 100000 in
theorem ld_X12_isOfficer : aLd yX12_isOfficer 1 := ⟨by decide +kernel, by decide +kernel, by decide +kernel⟩
set_option maxRecDepth 100000 in
theorem lk_X12_374 : aLV RX12 374 yX12_isOfficer cX12_isOfficer 2 (some .boolean) 1 := ⟨gm 1915 rfl rfl, gm 1917 rfl rfl, gm 76 rfl rfl, gm 126 rfl rfl, gm 1918 rfl rfl, ld_X12_isOfficer⟩
set_option maxRecDepth 100000 in
theorem ld_X12_isChild : aLd yX12_isChild 1 := ⟨by decide +kernel, by decide +kernel, by decide +kernel⟩
set_option maxRecDepth 100000 in
theorem lk_X12_379 : aLV RX12 379 yX12_isChild cX12_isChild 2 (some .boolean) 1 := ⟨gm 1936 rfl rfl, gm 1938 rfl rfl, gm 78 rfl rfl, gm 126 rfl rfl, gm 1939 rfl rfl, ld_X12_isChild⟩
set_option maxRecDepth 100000 in
theorem ld_X12_canMove : aLd yX12_canMove 3 := ⟨by decide +kernel, by decide +kernel, by decide +kernel⟩
set_option maxRecDepth 100000 in
theorem lk_X12_382 : aLV RX12 382 yX12_canMove cX12_canMove 4 (some .boolean) 3 := ⟨gm 1932 rfl rfl, gm 1934 rfl rfl, gm 77 rfl rfl, gm 126 rfl rfl, gm 1935 rfl rfl, ld_X12_canMove⟩
set_option maxRecDepth 100000 in
theorem ld_X12_remember : aLd yX12_remember 0 := ⟨by decide +kernel, by decide +kernel, by decide +kernel⟩
set_option maxRecDepth 100000 in
theorem lk_X12_386 : aLV RX12 386 yX12_remember cX12_remember 2 none 0 := ⟨gm 1940 rfl rfl, gm 1942 rfl rfl, gm 79 rfl rfl, gm 126 rfl rfl, gm 1943 rfl rfl, ld_X12_remember⟩
set_option maxRecDepth 100000 in
theorem ld_X12_moves : aLd yX12_moves 3 := ⟨by decide +kernel, by decide +kernel, by decide +kernel⟩
set_option maxRecDepth 100000 in
theorem lk_X12_389 : aLV RX12 389 yX12_moves cX12_moves 7 none 3 := ⟨gm 1944 rfl rfl, gm 1946 rfl rfl, gm 80 rfl rfl, gm 126 rfl rfl, gm 1947 rfl rfl, ld_X12_moves⟩
set_option maxRecDepth 100000 in
theorem ld_X12_canSay : aLd yX12_canSay 3 := ⟨by decide +kernel, by decide +kernel, by decide +kernel⟩
set_option maxRecDepth 100000 in
theorem lk_X12_393 : aLV RX12 393 yX12_canSay cX12_canSay 4 (some .boolean) 3 := ⟨gm 1952 rfl rfl, gm 1954 rfl rfl, gm 81 rfl rfl, gm 126 rfl rfl, gm 1955 rfl rfl, ld_X12_canSay⟩
set_option maxRecDepth 100000 in
theorem ld_X12_canWake : aLd yX12_canWake 2 := ⟨by decide +kernel, by decide +kernel, by decide +kernel⟩
set_option maxRecDepth 100000 in
theorem lk_X12_396 : aLV RX12 396 yX12_canWake cX12_canWake 3 (some .boolean) 2 := ⟨gm 1960 rfl rfl, gm 1962 rfl rfl, gm 82 rfl rfl, gm 126 rfl rfl, gm 1963 rfl rfl, ld_X12_canWake⟩
set_option maxRecDepth 100000 in
theorem ld_X12_canLie : aLd yX12_canLie 2 := ⟨by decide +kernel, by decide +kernel, by decide +kernel⟩
set_option maxRecDepth 100000 in
theorem lk_X12_400 : aLV RX12 400 yX12_canLie cX12_canLie 3 (some .boolean) 2 := ⟨gm 1986 rfl rfl, gm 1988 rfl rfl, gm 87 rfl rfl, gm 126 rfl rfl, gm 1989 rfl rfl, ld_X12_canLie⟩
set_option maxRecDepth 100000 in
theorem ld_X12_asleepIn : aLd yX12_asleepIn 1 := ⟨by decide +kernel, by decide +kernel, by decide +kernel⟩
set_option maxRecDepth 100000 in
theorem lk_X12_403 : aLV RX12 403 yX12_asleepIn cX12_asleepIn 4 (some .int) 1 := ⟨gm 1990 rfl rfl, gm 1992 rfl rfl, gm 88 rfl rfl, gm 126 rfl rfl, gm 1993 rfl rfl, ld_X12_asleepIn⟩
set_option maxRecDepth 100000 in
theorem ld_X12_canSwap : aLd yX12_canSwap 2 := ⟨by decide +kernel, by decide +kernel, by decide +kernel⟩
set_option maxRecDepth 100000 in
theorem lk_X12_407 : aLV RX12 407 yX12_canSwap cX12_canSwap 3 (some .boolean) 2 := ⟨gm 1998 rfl rfl, gm 2000 rfl rfl, gm 89 rfl rfl, gm 126 rfl rfl, gm 2001 rfl rfl, ld_X12_canSwap⟩
set_option maxRecDepth 100000 in
theorem ld_X12_swaps : aLd yX12_swaps 3 := ⟨by decide +kernel, by decide +kernel, by decide +kernel⟩
set_option maxRecDepth 100000 in
theorem lk_X12_410 : aLS RX12 410 yX12_swaps cX12_swaps 4 none 3 := ⟨gm 2002 rfl rfl, gm 2003 rfl rfl, gm 126 rfl rfl, gm 2004 rfl rfl, ld_X12_swaps⟩
set_option maxRecDepth 100000 in
theorem ld_X12_isLate : aLd yX12_isLate 1 := ⟨by decide +kernel, by decide +kernel, by decide +kernel⟩
set_option maxRecDepth 100000 in
theorem lk_X12_413 : aLV RX12 413 yX12_isLate cX12_isLate 2 (some .boolean) 1 := ⟨gm 2029 rfl rfl, gm 2031 rfl rfl, gm 95 rfl rfl, gm 126 rfl rfl, gm 2032 rfl rfl, ld_X12_isLate⟩
set_option maxRecDepth 100000 in
theorem ld_X12_goesBorder : aLd yX12_goesBorder 2 := ⟨by decide +kernel, by decide +kernel, by decide +kernel⟩
set_option maxRecDepth 100000 in
theorem lk_X12_416 : aLV RX12 416 yX12_goesBorder cX12_goesBorder 4 none 2 := ⟨gm 2009 rfl rfl, gm 2011 rfl rfl, gm 90 rfl rfl, gm 126 rfl rfl, gm 2012 rfl rfl, ld_X12_goesBorder⟩
set_option maxRecDepth 100000 in
theorem ld_X12_weights : aLd yX12_weights 0 := ⟨by decide +kernel, by decide +kernel, by decide +kernel⟩
set_option maxRecDepth 100000 in
theorem lk_X12_427 : aLV RX12 427 yX12_weights cX12_weights 3 (some .int) 0 := ⟨gm 2042 rfl rfl, gm 2044 rfl rfl, gm 97 rfl rfl, gm 126 rfl rfl, gm 2045 rfl rfl, ld_X12_weights⟩
set_option maxRecDepth 100000 in
theorem ld_X12_draw : aLd yX12_draw 1 := ⟨by decide +kernel, by decide +kernel, by decide +kernel⟩
set_option maxRecDepth 100000 in
theorem lk_X12_430 : aLV RX12 430 yX12_draw cX12_draw 2 (some .int) 1 := ⟨gm 2046 rfl rfl, gm 2048 rfl rfl, gm 98 rfl rfl, gm 126 rfl rfl, gm 2049 rfl rfl, ld_X12_draw⟩
set_option maxRecDepth 100000 in
theorem ld_X12_drawnOfficer : aLd yX12_drawnOfficer 0 := ⟨by decide +kernel, by decide +kernel, by decide +kernel⟩
set_option maxRecDepth 100000 in
theorem lk_X12_435 : aLV RX12 435 yX12_drawnOfficer cX12_drawnOfficer 4 (some .int) 0 := ⟨gm 2038 rfl rfl, gm 2040 rfl rfl, gm 96 rfl rfl, gm 126 rfl rfl, gm 2041 rfl rfl, ld_X12_drawnOfficer⟩
set_option maxRecDepth 100000 in
theorem ld_X12_isLine : aLd yX12_isLine 1 := ⟨by decide +kernel, by decide +kernel, by decide +kernel⟩
set_option maxRecDepth 100000 in
theorem lk_X12_438 : aLV RX12 438 yX12_isLine cX12_isLine 2 (some .boolean) 1 := ⟨gm 2064 rfl rfl, gm 2066 rfl rfl, gm 99 rfl rfl, gm 126 rfl rfl, gm 2067 rfl rfl, ld_X12_isLine⟩
set_option maxRecDepth 100000 in
theorem ld_X12_canStep : aLd yX12_canStep 2 := ⟨by decide +kernel, by decide +kernel, by decide +kernel⟩
set_option maxRecDepth 100000 in
theorem lk_X12_442 : aLV RX12 442 yX12_canStep cX12_canStep 5 (some .boolean) 2 := ⟨gm 2076 rfl rfl, gm 2078 rfl rfl, gm 100 rfl rfl, gm 126 rfl rfl, gm 2079 rfl rfl, ld_X12_canStep⟩
set_option maxRecDepth 100000 in
theorem ld_X12_steps : aLd yX12_steps 2 := ⟨by decide +kernel, by decide +kernel, by decide +kernel⟩
set_option maxRecDepth 100000 in
theorem lk_X12_445 : aLV RX12 445 yX12_steps cX12_steps 6 none 2 := ⟨gm 2080 rfl rfl, gm 2082 rfl rfl, gm 101 rfl rfl, gm 126 rfl rfl, gm 2083 rfl rfl, ld_X12_steps⟩
set_option maxRecDepth 100000 in
theorem ld_X12_lostIn : aLd yX12_lostIn 1 := ⟨by decide +kernel, by decide +kernel, by decide +kernel⟩
set_option maxRecDepth 100000 in
theorem lk_X12_448 : aLV RX12 448 yX12_lostIn cX12_lostIn 4 (some .int) 1 := ⟨gm 2084 rfl rfl, gm 2086 rfl rfl, gm 102 rfl rfl, gm 126 rfl rfl, gm 2087 rfl rfl, ld_X12_lostIn⟩
set_option maxRecDepth 100000 in
theorem ld_X12_tryBorder : aLd yX12_tryBorder 1 := ⟨by decide +kernel, by decide +kernel, by decide +kernel⟩
set_option maxRecDepth 100000 in
theorem lk_X12_451 : aLV RX12 451 yX12_tryBorder cX12_tryBorder 2 none 1 := ⟨gm 2096 rfl rfl, gm 2098 rfl rfl, gm 103 rfl rfl, gm 126 rfl rfl, gm 2099 rfl rfl, ld_X12_tryBorder⟩
set_option maxRecDepth 100000 in
theorem ld_X12_tensOf : aLd yX12_tensOf 2 := ⟨by decide +kernel, by decide +kernel, by decide +kernel⟩
set_option maxRecDepth 100000 in
theorem lk_X12_454 : aLV RX12 454 yX12_tensOf cX12_tensOf 8 (some .int) 2 := ⟨gm 2108 rfl rfl, gm 2110 rfl rfl, gm 105 rfl rfl, gm 126 rfl rfl, gm 2111 rfl rfl, ld_X12_tensOf⟩
set_option maxRecDepth 100000 in
theorem ld_X12_goOrder : aLd yX12_goOrder 4 := ⟨by decide +kernel, by decide +kernel, by decide +kernel⟩
set_option maxRecDepth 100000 in
theorem lk_X12_463 : aLV RX12 463 yX12_goOrder cX12_goOrder 6 none 4 := ⟨gm 2104 rfl rfl, gm 2106 rfl rfl, gm 104 rfl rfl, gm 126 rfl rfl, gm 2107 rfl rfl, ld_X12_goOrder⟩
set_option maxRecDepth 100000 in
theorem ld_X12_costOf : aLd yX12_costOf 1 := ⟨by decide +kernel, by decide +kernel, by decide +kernel⟩
set_option maxRecDepth 100000 in
theorem lk_X12_467 : aLV RX12 467 yX12_costOf cX12_costOf 5 (some .int) 1 := ⟨gm 2120 rfl rfl, gm 2122 rfl rfl, gm 106 rfl rfl, gm 126 rfl rfl, gm 2123 rfl rfl, ld_X12_costOf⟩
set_option maxRecDepth 100000 in
theorem ld_X12_couldBe : aLd yX12_couldBe 1 := ⟨by decide +kernel, by decide +kernel, by decide +kernel⟩
set_option maxRecDepth 100000 in
theorem lk_X12_472 : aLV RX12 472 yX12_couldBe cX12_couldBe 3 (some .boolean) 1 := ⟨gm 2137 rfl rfl, gm 2139 rfl rfl, gm 107 rfl rfl, gm 126 rfl rfl, gm 2140 rfl rfl, ld_X12_couldBe⟩
set_option maxRecDepth 100000 in
theorem ld_X12_areSo : aLd yX12_areSo 2 := ⟨by decide +kernel, by decide +kernel, by decide +kernel⟩
set_option maxRecDepth 100000 in
theorem lk_X12_476 : aLV RX12 476 yX12_areSo cX12_areSo 4 (some .boolean) 2 := ⟨gm 2154 rfl rfl, gm 2156 rfl rfl, gm 109 rfl rfl, gm 126 rfl rfl, gm 2157 rfl rfl, ld_X12_areSo⟩
set_option maxRecDepth 100000 in
theorem ld_X12_wayOf : aLd yX12_wayOf 1 := ⟨by decide +kernel, by decide +kernel, by decide +kernel⟩
set_option maxRecDepth 100000 in
theorem lk_X12_479 : aLV RX12 479 yX12_wayOf cX12_wayOf 4 (some .int) 1 := ⟨gm 2150 rfl rfl, gm 2152 rfl rfl, gm 108 rfl rfl, gm 126 rfl rfl, gm 2153 rfl rfl, ld_X12_wayOf⟩
set_option maxRecDepth 100000 in
theorem lk_X12_482 : aLV RX12 482 yX12_fit cX12_fit 5 (some .int) 1 := ⟨gm 2162 rfl rfl, gm 2147 rfl rfl, gm 2148 rfl rfl, gm 126 rfl rfl, gm 2149 rfl rfl, ld_X12_fit⟩
set_option maxRecDepth 100000 in
theorem lk_X12_485 : aLm RX12 485 Lib.Math.abs.name Lib.Math.abs.code 1 := ⟨gm 2163 rfl rfl, gm 883 rfl rfl, gm 132 rfl rfl, gm 884 rfl rfl⟩
set_option maxRecDepth 100000 in
theorem ld_J6_bitCount_0f7a4 : aLd yJ6_bitCount_0f7a4 1 := ⟨by decide +kernel, by decide +kernel, by decide +kernel⟩
set_option maxRecDepth 100000 in
theorem lk_X12_490 : aLS RX12 490 yJ6_bitCount_0f7a4 cJ6_bitCount_0f7a4 1 (some .int) 1 := ⟨gm 2169 rfl rfl, gm 1154 rfl rfl, gm 138 rfl rfl, gm 1155 rfl rfl, ld_J6_bitCount_0f7a4⟩
set_option maxRecDepth 100000 in
theorem ld_X12_troubleOf : aLd yX12_troubleOf 0 := ⟨by decide +kernel, by decide +kernel, by decide +kernel⟩
set_option maxRecDepth 100000 in
theorem lk_X12_495 : aLV RX12 495 yX12_troubleOf cX12_troubleOf 4 (some .int) 0 := ⟨gm 2178 rfl rfl, gm 2180 rfl rfl, gm 111 rfl rfl, gm 126 rfl rfl, gm 2181 rfl rfl, ld_X12_troubleOf⟩
set_option maxRecDepth 100000 in
theorem ld_X12_goGive : aLd yX12_goGive 3 := ⟨by decide +kernel, by decide +kernel, by decide +kernel⟩
set_option maxRecDepth 100000 in
theorem lk_X12_504 : aLV RX12 504 yX12_goGive cX12_goGive 5 none 3 := ⟨gm 2174 rfl rfl, gm 2176 rfl rfl, gm 110 rfl rfl, gm 126 rfl rfl, gm 2177 rfl rfl, ld_X12_goGive⟩
set_option maxRecDepth 100000 in
theorem ld_X12_favourOf : aLd yX12_favourOf 5 := ⟨by decide +kernel, by decide +kernel, by decide +kernel⟩
set_option maxRecDepth 100000 in
theorem lk_X12_508 : aLV RX12 508 yX12_favourOf cX12_favourOf 8 (some .int) 5 := ⟨gm 2190 rfl rfl, gm 2192 rfl rfl, gm 112 rfl rfl, gm 126 rfl rfl, gm 2193 rfl rfl, ld_X12_favourOf⟩
set_option maxRecDepth 100000 in
theorem lk_X2_3 : aLO RX2 3 := ⟨gm 405 rfl rfl, gm 145 rfl rfl, gm 146 rfl rfl⟩
set_option maxRecDepth 100000 in
theorem ld_X2_couldBe : aLd yX2_couldBe 1 := ⟨by decide +kernel, by decide +kernel, by decide +kernel⟩
set_option maxRecDepth 100000 in
theorem lk_X2_44 : aLV RX2 44 yX2_couldBe cX2_couldBe 4 (some .boolean) 1 := ⟨gm 1285 rfl rfl, gm 1287 rfl rfl, gm 43 rfl rfl, gm 125 rfl rfl, gm 1288 rfl rfl, ld_X2_couldBe⟩
set_option maxRecDepth 100000 in
theorem lk_X2_48 : aLV RX2 48 yX1_officers cX1_officers 1 (some .int) 0 := ⟨gm 1291 rfl rfl, gm 1063 rfl rfl, gm 1064 rfl rfl, gm 119 rfl rfl, gm 1065 rfl rfl, ld_X1_officers⟩
set_option maxRecDepth 100000 in
theorem lk_X2_54 : aLV RX2 54 yX1_ofOfficer cX1_ofOfficer 3 (some .int) 2 := ⟨gm 1292 rfl rfl, gm 774 rfl rfl, gm 775 rfl rfl, gm 119 rfl rfl, gm 776 rfl rfl, ld_X1_ofOfficer⟩
set_option maxRecDepth 100000 in
theorem lk_X2_59 : aLV RX2 59 yX3_pass cX3_pass 12 (some .int) 3 := ⟨gm 1289 rfl rfl, gm 948 rfl rfl, gm 949 rfl rfl, gm 121 rfl rfl, gm 950 rfl rfl, ld_X3_pass⟩
set_option maxRecDepth 100000 in
theorem ld_X1_looksAtFaces : aLd yX1_looksAtFaces 1 := ⟨by decide +kernel, by decide +kernel, by decide +kernel⟩
set_option maxRecDepth 100000 in
theorem lk_X2_65 : aLV RX2 65 yX1_looksAtFaces cX1_looksAtFaces 2 (some .boolean) 1 := ⟨gm 1290 rfl rfl, gm 965 rfl rfl, gm 966 rfl rfl, gm 119 rfl rfl, gm 967 rfl rfl, ld_X1_looksAtFaces⟩
set_option maxRecDepth 100000 in
theorem ld_X2_fits : aLd yX2_fits 2 := ⟨by decide +kernel, by decide +kernel, by decide +kernel⟩
set_option maxRecDepth 100000 in
theorem lk_X2_68 : aLV RX2 68 yX2_fits cX2_fits 5 (some .boolean) 2 := ⟨gm 1319 rfl rfl, gm 1321 rfl rfl, gm 44 rfl rfl, gm 125 rfl rfl, gm 1322 rfl rfl, ld_X2_fits⟩
set_option maxRecDepth 100000 in
theorem lk_X2_72 : aLV RX2 72 yX1_sleepers cX1_sleepers 1 (some .int) 0 := ⟨gm 1324 rfl rfl, gm 727 rfl rfl, gm 728 rfl rfl, gm 119 rfl rfl, gm 729 rfl rfl, ld_X1_sleepers⟩
set_option maxRecDepth 100000 in
theorem lk_X2_75 : aLV RX2 75 yX1_ofSleeper cX1_ofSleeper 3 (some .int) 2 := ⟨gm 1323 rfl rfl, gm 611 rfl rfl, gm 612 rfl rfl, gm 119 rfl rfl, gm 613 rfl rfl, ld_X1_ofSleeper⟩
set_option maxRecDepth 100000 in
theorem lk_X2_78 : aLV RX2 78 yX2_fitting cX2_fitting 5 (some .int) 1 := ⟨gm 1333 rfl rfl, gm 1316 rfl rfl, gm 1317 rfl rfl, gm 125 rfl rfl, gm 1318 rfl rfl, ld_X2_fitting⟩
set_option maxRecDepth 100000 in
theorem ld_X2_apartAt : aLd yX2_apartAt 1 := ⟨by decide +kernel, by decide +kernel, by decide +kernel⟩
set_option maxRecDepth 100000 in
theorem lk_X2_82 : aLV RX2 82 yX2_apartAt cX2_apartAt 5 (some .int) 1 := ⟨gm 1334 rfl rfl, gm 1336 rfl rfl, gm 45 rfl rfl, gm 125 rfl rfl, gm 1337 rfl rfl, ld_X2_apartAt⟩
set_option maxRecDepth 100000 in
theorem lk_X2_85 : aLm RX2 85 Lib.Math.abs.name Lib.Math.abs.code 1 := ⟨gm 1338 rfl rfl, gm 883 rfl rfl, gm 132 rfl rfl, gm 884 rfl rfl⟩
set_option maxRecDepth 100000 in
theorem lk_X2_90 : aLV RX2 90 yX1_hasPaper cX1_hasPaper 2 (some .boolean) 1 := ⟨gm 1347 rfl rfl, gm 603 rfl rfl, gm 604 rfl rfl, gm 119 rfl rfl, gm 605 rfl rfl, ld_X1_hasPaper⟩
set_option maxRecDepth 100000 in
theorem lk_X2_93 : aLV RX2 93 yX1_papers cX1_papers 1 (some .int) 0 := ⟨gm 1348 rfl rfl, gm 824 rfl rfl, gm 825 rfl rfl, gm 119 rfl rfl, gm 826 rfl rfl, ld_X1_papers⟩
set_option maxRecDepth 100000 in
theorem lk_X2_96 : aLS RX2 96 yJ6_bitCount_0f7a4 cJ6_bitCount_0f7a4 1 (some .int) 1 := ⟨gm 1349 rfl rfl, gm 1154 rfl rfl, gm 138 rfl rfl, gm 1155 rfl rfl, ld_J6_bitCount_0f7a4⟩
set_option maxRecDepth 100000 in
theorem lk_X2_101 : aLV RX2 101 yX8_inDrawer cX8_inDrawer 2 (some .int) 1 := ⟨gm 1399 rfl rfl, gm 953 rfl rfl, gm 954 rfl rfl, gm 120 rfl rfl, gm 955 rfl rfl, ld_X8_inDrawer⟩
set_option maxRecDepth 100000 in
theorem lk_X2_106 : aLV RX2 106 yX3_wakes cX3_wakes 4 (some .boolean) 3 := ⟨gm 1400 rfl rfl, gm 961 rfl rfl, gm 962 rfl rfl, gm 121 rfl rfl, gm 963 rfl rfl, ld_X3_wakes⟩
set_option maxRecDepth 100000 in
theorem lk_X3_3 : aLO RX3 3 := ⟨gm 263 rfl rfl, gm 145 rfl rfl, gm 146 rfl rfl⟩
set_option maxRecDepth 100000 in
theorem lk_X3_32 : aLV RX3 32 yX3_lossOf cX3_lossOf 7 (some .int) 4 := ⟨gm 864 rfl rfl, gm 865 rfl rfl, gm 866 rfl rfl, gm 121 rfl rfl, gm 867 rfl rfl, ld_X3_lossOf⟩
set_option maxRecDepth 100000 in
theorem lk_X3_36 : aLV RX3 36 yX1_papers cX1_papers 1 (some .int) 0 := ⟨gm 823 rfl rfl, gm 824 rfl rfl, gm 825 rfl rfl, gm 119 rfl rfl, gm 826 rfl rfl, ld_X1_papers⟩
set_option maxRecDepth 100000 in
theorem lk_X3_42 : aLV RX3 42 yX8_inDrawer cX8_inDrawer 2 (some .int) 1 := ⟨gm 952 rfl rfl, gm 953 rfl rfl, gm 954 rfl rfl, gm 120 rfl rfl, gm 955 rfl rfl, ld_X8_inDrawer⟩
set_option maxRecDepth 100000 in
theorem lk_X3_48 : aLV RX3 48 yX3_lossByHand cX3_lossByHand 3 (some .int) 2 := ⟨gm 860 rfl rfl, gm 861 rfl rfl, gm 862 rfl rfl, gm 121 rfl rfl, gm 863 rfl rfl, ld_X3_lossByHand⟩
set_option maxRecDepth 100000 in
theorem lk_X3_52 : aLV RX3 52 yX1_ofSleeper cX1_ofSleeper 3 (some .int) 2 := ⟨gm 868 rfl rfl, gm 611 rfl rfl, gm 612 rfl rfl, gm 119 rfl rfl, gm 613 rfl rfl, ld_X1_ofSleeper⟩
set_option maxRecDepth 100000 in
theorem lk_X3_56 : aLV RX3 56 yX8_timesWoken cX8_timesWoken 2 (some .int) 1 := ⟨gm 869 rfl rfl, gm 870 rfl rfl, gm 871 rfl rfl, gm 120 rfl rfl, gm 872 rfl rfl, ld_X8_timesWoken⟩
set_option maxRecDepth 100000 in
theorem ld_X3_snoresBeside : aLd yX3_snoresBeside 2 := ⟨by decide +kernel, by decide +kernel, by decide +kernel⟩
set_option maxRecDepth 100000 in
theorem lk_X3_59 : aLV RX3 59 yX3_snoresBeside cX3_snoresBeside 5 (some .int) 2 := ⟨gm 873 rfl rfl, gm 875 rfl rfl, gm 20 rfl rfl, gm 121 rfl rfl, gm 876 rfl rfl, ld_X3_snoresBeside⟩
set_option maxRecDepth 100000 in
theorem ld_X4_worth : aLd yX4_worth 1 := ⟨by decide +kernel, by decide +kernel, by decide +kernel⟩
set_option maxRecDepth 100000 in
theorem lk_X3_62 : aLV RX3 62 yX4_worth cX4_worth 6 (some .int) 1 := ⟨gm 885 rfl rfl, gm 886 rfl rfl, gm 887 rfl rfl, gm 117 rfl rfl, gm 888 rfl rfl, ld_X4_worth⟩
set_option maxRecDepth 100000 in
theorem lk_X3_66 : aLm RX3 66 Lib.Math.min.name Lib.Math.min.code 2 := ⟨gm 916 rfl rfl, gm 911 rfl rfl, gm 132 rfl rfl, gm 912 rfl rfl⟩
set_option maxRecDepth 100000 in
theorem lk_X3_71 : aLm RX3 71 Lib.Math.max.name Lib.Math.max.code 2 := ⟨gm 917 rfl rfl, gm 914 rfl rfl, gm 132 rfl rfl, gm 915 rfl rfl⟩
set_option maxRecDepth 100000 in
theorem lk_X3_74 : aLV RX3 74 yX1_sleepers cX1_sleepers 1 (some .int) 0 := ⟨gm 877 rfl rfl, gm 727 rfl rfl, gm 728 rfl rfl, gm 119 rfl rfl, gm 729 rfl rfl, ld_X1_sleepers⟩
set_option maxRecDepth 100000 in
theorem lk_X3_77 : aLV RX3 77 yX8_areBeside cX8_areBeside 3 (some .boolean) 2 := ⟨gm 878 rfl rfl, gm 879 rfl rfl, gm 880 rfl rfl, gm 120 rfl rfl, gm 881 rfl rfl, ld_X8_areBeside⟩
set_option maxRecDepth 100000 in
theorem lk_X3_81 : aLV RX3 81 yX1_looksAtFaces cX1_looksAtFaces 2 (some .boolean) 1 := ⟨gm 964 rfl rfl, gm 965 rfl rfl, gm 966 rfl rfl, gm 119 rfl rfl, gm 967 rfl rfl, ld_X1_looksAtFaces⟩
set_option maxRecDepth 100000 in
theorem lk_X3_85 : aLV RX3 85 yX1_ofOfficer cX1_ofOfficer 3 (some .int) 2 := ⟨gm 974 rfl rfl, gm 774 rfl rfl, gm 775 rfl rfl, gm 119 rfl rfl, gm 776 rfl rfl, ld_X1_ofOfficer⟩
set_option maxRecDepth 100000 in
theorem lk_X3_88 : aLV RX3 88 yX8_isAsleep cX8_isAsleep 2 (some .boolean) 1 := ⟨gm 856 rfl rfl, gm 857 rfl rfl, gm 858 rfl rfl, gm 120 rfl rfl, gm 859 rfl rfl, ld_X8_isAsleep⟩
set_option maxRecDepth 100000 in
theorem lk_X3_91 : aLV RX3 91 yX3_wakes cX3_wakes 4 (some .boolean) 3 := ⟨gm 960 rfl rfl, gm 961 rfl rfl, gm 962 rfl rfl, gm 121 rfl rfl, gm 963 rfl rfl, ld_X3_wakes⟩
set_option maxRecDepth 100000 in
theorem lk_X3_95 : aLV RX3 95 yX1_ruleOf cX1_ruleOf 2 (some .int) 1 := ⟨gm 969 rfl rfl, gm 732 rfl rfl, gm 733 rfl rfl, gm 119 rfl rfl, gm 734 rfl rfl, ld_X1_ruleOf⟩
set_option maxRecDepth 100000 in
theorem lk_X3_98 : aLV RX3 98 yX3_turnAwake cX3_turnAwake 4 (some .int) 2 := ⟨gm 970 rfl rfl, gm 971 rfl rfl, gm 972 rfl rfl, gm 121 rfl rfl, gm 973 rfl rfl, ld_X3_turnAwake⟩
set_option maxRecDepth 100000 in
theorem lk_X3_101 : aLV RX3 101 yX8_saidFor cX8_saidFor 2 (some .int) 1 := ⟨gm 843 rfl rfl, gm 844 rfl rfl, gm 845 rfl rfl, gm 120 rfl rfl, gm 846 rfl rfl, ld_X8_saidFor⟩
set_option maxRecDepth 100000 in
theorem lk_X3_104 : aLV RX3 104 yX8_coffees cX8_coffees 1 (some .int) 0 := ⟨gm 951 rfl rfl, gm 761 rfl rfl, gm 762 rfl rfl, gm 120 rfl rfl, gm 763 rfl rfl, ld_X8_coffees⟩
set_option maxRecDepth 100000 in
theorem lk_X3_107 : aLV RX3 107 yX3_turnOf cX3_turnOf 5 (some .int) 3 := ⟨gm 956 rfl rfl, gm 957 rfl rfl, gm 958 rfl rfl, gm 121 rfl rfl, gm 959 rfl rfl, ld_X3_turnOf⟩
set_option maxRecDepth 100000 in
theorem ld_X8_rouse : aLd yX8_rouse 2 := ⟨by decide +kernel, by decide +kernel, by decide +kernel⟩
set_option maxRecDepth 100000 in
theorem lk_X3_111 : aLV RX3 111 yX8_rouse cX8_rouse 3 none 2 := ⟨gm 918 rfl rfl, gm 919 rfl rfl, gm 920 rfl rfl, gm 120 rfl rfl, gm 921 rfl rfl, ld_X8_rouse⟩
set_option maxRecDepth 100000 in
theorem lk_X3_115 : aLV RX3 115 yX3_waitOf cX3_waitOf 6 (some .int) 4 := ⟨gm 975 rfl rfl, gm 976 rfl rfl, gm 977 rfl rfl, gm 121 rfl rfl, gm 978 rfl rfl, ld_X3_waitOf⟩
set_option maxRecDepth 100000 in
theorem lk_X3_119 : aLV RX3 119 yX3_takesCoffee cX3_takesCoffee 3 (some .boolean) 2 := ⟨gm 979 rfl rfl, gm 980 rfl rfl, gm 981 rfl rfl, gm 121 rfl rfl, gm 982 rfl rfl, ld_X3_takesCoffee⟩
set_option maxRecDepth 100000 in
theorem lk_X3_123 : aLV RX3 123 yX1_isLacking cX1_isLacking 2 (some .boolean) 1 := ⟨gm 839 rfl rfl, gm 840 rfl rfl, gm 841 rfl rfl, gm 119 rfl rfl, gm 842 rfl rfl, ld_X1_isLacking⟩
set_option maxRecDepth 100000 in
theorem ld_X8_leaveCoffees : aLd yX8_leaveCoffees 1 := ⟨by decide +kernel, by decide +kernel, by decide +kernel⟩
set_option maxRecDepth 100000 in
theorem lk_X3_126 : aLV RX3 126 yX8_leaveCoffees cX8_leaveCoffees 2 none 1 := ⟨gm 983 rfl rfl, gm 984 rfl rfl, gm 985 rfl rfl, gm 120 rfl rfl, gm 986 rfl rfl, ld_X8_leaveCoffees⟩
set_option maxRecDepth 100000 in
theorem ld_X3_movePaper : aLd yX3_movePaper 3 := ⟨by decide +kernel, by decide +kernel, by decide +kernel⟩
set_option maxRecDepth 100000 in
theorem lk_X3_130 : aLV RX3 130 yX3_movePaper cX3_movePaper 5 (some .int) 3 := ⟨gm 818 rfl rfl, gm 820 rfl rfl, gm 17 rfl rfl, gm 121 rfl rfl, gm 821 rfl rfl, ld_X3_movePaper⟩
set_option maxRecDepth 100000 in
theorem ld_X3_sayAnother : aLd yX3_sayAnother 3 := ⟨by decide +kernel, by decide +kernel, by decide +kernel⟩
set_option maxRecDepth 100000 in
theorem lk_X3_133 : aLV RX3 133 yX3_sayAnother cX3_sayAnother 5 (some .int) 3 := ⟨gm 835 rfl rfl, gm 837 rfl rfl, gm 18 rfl rfl, gm 121 rfl rfl, gm 838 rfl rfl, ld_X3_sayAnother⟩
set_option maxRecDepth 100000 in
theorem ld_X3_wakeByHand : aLd yX3_wakeByHand 2 := ⟨by decide +kernel, by decide +kernel, by decide +kernel⟩
set_option maxRecDepth 100000 in
theorem lk_X3_136 : aLV RX3 136 yX3_wakeByHand cX3_wakeByHand 4 (some .int) 2 := ⟨gm 851 rfl rfl, gm 853 rfl rfl, gm 19 rfl rfl, gm 121 rfl rfl, gm 854 rfl rfl, ld_X3_wakeByHand⟩
set_option maxRecDepth 100000 in
theorem ld_X3_lieDown : aLd yX3_lieDown 2 := ⟨by decide +kernel, by decide +kernel, by decide +kernel⟩
set_option maxRecDepth 100000 in
theorem lk_X3_139 : aLV RX3 139 yX3_lieDown cX3_lieDown 3 (some .int) 2 := ⟨gm 922 rfl rfl, gm 924 rfl rfl, gm 23 rfl rfl, gm 121 rfl rfl, gm 925 rfl rfl, ld_X3_lieDown⟩
set_option maxRecDepth 100000 in
theorem ld_X3_swapBerths : aLd yX3_swapBerths 3 := ⟨by decide +kernel, by decide +kernel, by decide +kernel⟩
set_option maxRecDepth 100000 in
theorem lk_X3_142 : aLV RX3 142 yX3_swapBerths cX3_swapBerths 4 (some .int) 3 := ⟨gm 938 rfl rfl, gm 940 rfl rfl, gm 25 rfl rfl, gm 121 rfl rfl, gm 941 rfl rfl, ld_X3_swapBerths⟩
set_option maxRecDepth 100000 in
theorem lk_X3_145 : aLV RX3 145 yX1_hasOfficer cX1_hasOfficer 2 (some .boolean) 1 := ⟨gm 946 rfl rfl, gm 770 rfl rfl, gm 771 rfl rfl, gm 119 rfl rfl, gm 772 rfl rfl, ld_X1_hasOfficer⟩
set_option maxRecDepth 100000 in
theorem lk_X3_148 : aLV RX3 148 yX3_pass cX3_pass 12 (some .int) 3 := ⟨gm 947 rfl rfl, gm 948 rfl rfl, gm 949 rfl rfl, gm 121 rfl rfl, gm 950 rfl rfl, ld_X3_pass⟩
set_option maxRecDepth 100000 in
theorem lk_X3_152 : aLV RX3 152 yX1_hasPaper cX1_hasPaper 2 (some .boolean) 1 := ⟨gm 822 rfl rfl, gm 603 rfl rfl, gm 604 rfl rfl, gm 119 rfl rfl, gm 605 rfl rfl, ld_X1_hasPaper⟩
set_option maxRecDepth 100000 in
theorem lk_X3_155 : aLV RX3 155 yX8_placeOf cX8_placeOf 4 (some .int) 2 := ⟨gm 827 rfl rfl, gm 828 rfl rfl, gm 829 rfl rfl, gm 120 rfl rfl, gm 830 rfl rfl, ld_X8_placeOf⟩
set_option maxRecDepth 100000 in
theorem ld_X8_shiftPaper : aLd yX8_shiftPaper 2 := ⟨by decide +kernel, by decide +kernel, by decide +kernel⟩
set_option maxRecDepth 100000 in
theorem lk_X3_158 : aLV RX3 158 yX8_shiftPaper cX8_shiftPaper 5 none 2 := ⟨gm 831 rfl rfl, gm 832 rfl rfl, gm 833 rfl rfl, gm 120 rfl rfl, gm 834 rfl rfl, ld_X8_shiftPaper⟩
set_option maxRecDepth 100000 in
theorem ld_X8_putSaid : aLd yX8_putSaid 2 := ⟨by decide +kernel, by decide +kernel, by decide +kernel⟩
set_option maxRecDepth 100000 in
theorem lk_X3_161 : aLV RX3 161 yX8_putSaid cX8_putSaid 3 none 2 := ⟨gm 847 rfl rfl, gm 848 rfl rfl, gm 849 rfl rfl, gm 120 rfl rfl, gm 850 rfl rfl, ld_X8_putSaid⟩
set_option maxRecDepth 100000 in
theorem lk_X3_164 : aLV RX3 164 yX1_hasSleeper cX1_hasSleeper 2 (some .boolean) 1 := ⟨gm 855 rfl rfl, gm 607 rfl rfl, gm 608 rfl rfl, gm 119 rfl rfl, gm 609 rfl rfl, ld_X1_hasSleeper⟩
set_option maxRecDepth 100000 in
theorem lk_X3_167 : aLV RX3 167 yX8_layDown cX8_layDown 2 none 1 := ⟨gm 926 rfl rfl, gm 927 rfl rfl, gm 928 rfl rfl, gm 120 rfl rfl, gm 929 rfl rfl, ld_X8_layDown⟩
set_option maxRecDepth 100000 in
theorem lk_X3_170 : aLV RX3 170 yX8_asleepInAll cX8_asleepInAll 1 (some .int) 0 := ⟨gm 930 rfl rfl, gm 931 rfl rfl, gm 932 rfl rfl, gm 120 rfl rfl, gm 933 rfl rfl, ld_X8_asleepInAll⟩
set_option maxRecDepth 100000 in
theorem ld_X8_exchange : aLd yX8_exchange 2 := ⟨by decide +kernel, by decide +kernel, by decide +kernel⟩
set_option maxRecDepth 100000 in
theorem lk_X3_173 : aLV RX3 173 yX8_exchange cX8_exchange 4 none 2 := ⟨gm 942 rfl rfl, gm 943 rfl rfl, gm 944 rfl rfl, gm 120 rfl rfl, gm 945 rfl rfl, ld_X8_exchange⟩
set_option maxRecDepth 100000 in
theorem lk_X4_3 : aLO RX4 3 := ⟨gm 178 rfl rfl, gm 145 rfl rfl, gm 146 rfl rfl⟩
set_option maxRecDepth 100000 in
theorem lk_X4_24 : aLV RX4 24 yX10_rewind cX10_rewind 1 none 0 := ⟨gm 627 rfl rfl, gm 519 rfl rfl, gm 520 rfl rfl, gm 115 rfl rfl, gm 521 rfl rfl, ld_X10_rewind⟩
set_option maxRecDepth 100000 in
theorem ld_X4_readClause : aLd yX4_readClause 1 := ⟨by decide +kernel, by decide +kernel, by decide +kernel⟩
set_option maxRecDepth 100000 in
theorem lk_X4_27 : aLV RX4 27 yX4_readClause cX4_readClause 3 (some .boolean) 1 := ⟨gm 628 rfl rfl, gm 630 rfl rfl, gm 4 rfl rfl, gm 117 rfl rfl, gm 631 rfl rfl, ld_X4_readClause⟩
set_option maxRecDepth 100000 in
theorem lk_X4_31 : aLV RX4 31 yX10_ahead cX10_ahead 1 (some .int) 0 := ⟨gm 633 rfl rfl, gm 523 rfl rfl, gm 524 rfl rfl, gm 115 rfl rfl, gm 525 rfl rfl, ld_X10_ahead⟩
set_option maxRecDepth 100000 in
theorem lk_X4_35 : aLV RX4 35 yX10_takes cX10_takes 2 (some .boolean) 1 := ⟨gm 632 rfl rfl, gm 615 rfl rfl, gm 616 rfl rfl, gm 115 rfl rfl, gm 617 rfl rfl, ld_X10_takes⟩
set_option maxRecDepth 100000 in
theorem ld_X4_readSum : aLd yX4_readSum 2 := ⟨by decide +kernel, by decide +kernel, by decide +kernel⟩
set_option maxRecDepth 100000 in
theorem lk_X4_39 : aLV RX4 39 yX4_readSum cX4_readSum 6 (some .boolean) 2 := ⟨gm 634 rfl rfl, gm 636 rfl rfl, gm 5 rfl rfl, gm 117 rfl rfl, gm 637 rfl rfl, ld_X4_readSum⟩
set_option maxRecDepth 100000 in
theorem ld_X4_isComparison : aLd yX4_isComparison 1 := ⟨by decide +kernel, by decide +kernel, by decide +kernel⟩
set_option maxRecDepth 100000 in
theorem lk_X4_43 : aLS RX4 43 yX4_isComparison cX4_isComparison 1 (some .boolean) 1 := ⟨gm 657 rfl rfl, gm 658 rfl rfl, gm 117 rfl rfl, gm 659 rfl rfl, ld_X4_isComparison⟩
set_option maxRecDepth 100000 in
theorem ld_X4_emit : aLd yX4_emit 1 := ⟨by decide +kernel, by decide +kernel, by decide +kernel⟩
set_option maxRecDepth 100000 in
theorem lk_X4_46 : aLV RX4 46 yX4_emit cX4_emit 2 none 1 := ⟨gm 652 rfl rfl, gm 654 rfl rfl, gm 8 rfl rfl, gm 117 rfl rfl, gm 655 rfl rfl, ld_X4_emit⟩
set_option maxRecDepth 100000 in
theorem ld_X4_readCondition : aLd yX4_readCondition 3 := ⟨by decide +kernel, by decide +kernel, by decide +kernel⟩
set_option maxRecDepth 100000 in
theorem lk_X4_50 : aLV RX4 50 yX4_readCondition cX4_readCondition 5 (some .boolean) 3 := ⟨gm 660 rfl rfl, gm 662 rfl rfl, gm 9 rfl rfl, gm 117 rfl rfl, gm 663 rfl rfl, ld_X4_readCondition⟩
set_option maxRecDepth 100000 in
theorem ld_X4_readGuarded : aLd yX4_readGuarded 1 := ⟨by decide +kernel, by decide +kernel, by decide +kernel⟩
set_option maxRecDepth 100000 in
theorem lk_X4_54 : aLV RX4 54 yX4_readGuarded cX4_readGuarded 3 (some .boolean) 1 := ⟨gm 672 rfl rfl, gm 674 rfl rfl, gm 12 rfl rfl, gm 117 rfl rfl, gm 675 rfl rfl, ld_X4_readGuarded⟩
set_option maxRecDepth 100000 in
theorem ld_X4_readTruth : aLd yX4_readTruth 3 := ⟨by decide +kernel, by decide +kernel, by decide +kernel⟩
set_option maxRecDepth 100000 in
theorem lk_X4_57 : aLV RX4 57 yX4_readTruth cX4_readTruth 5 (some .boolean) 3 := ⟨gm 664 rfl rfl, gm 666 rfl rfl, gm 10 rfl rfl, gm 117 rfl rfl, gm 667 rfl rfl, ld_X4_readTruth⟩
set_option maxRecDepth 100000 in
theorem ld_X4_readUnit : aLd yX4_readUnit 3 := ⟨by decide +kernel, by decide +kernel, by decide +kernel⟩
set_option maxRecDepth 100000 in
theorem lk_X4_60 : aLV RX4 60 yX4_readUnit cX4_readUnit 7 (some .boolean) 3 := ⟨gm 668 rfl rfl, gm 670 rfl rfl, gm 11 rfl rfl, gm 117 rfl rfl, gm 671 rfl rfl, ld_X4_readUnit⟩
set_option maxRecDepth 100000 in
theorem lk_X4_63 : aLV RX4 63 yX10_pass cX10_pass 1 none 0 := ⟨gm 646 rfl rfl, gm 531 rfl rfl, gm 532 rfl rfl, gm 115 rfl rfl, gm 533 rfl rfl, ld_X10_pass⟩
set_option maxRecDepth 100000 in
theorem ld_X4_readTerm : aLd yX4_readTerm 2 := ⟨by decide +kernel, by decide +kernel, by decide +kernel⟩
set_option maxRecDepth 100000 in
theorem lk_X4_66 : aLV RX4 66 yX4_readTerm cX4_readTerm 6 (some .boolean) 2 := ⟨gm 638 rfl rfl, gm 640 rfl rfl, gm 6 rfl rfl, gm 117 rfl rfl, gm 641 rfl rfl, ld_X4_readTerm⟩
set_option maxRecDepth 100000 in
theorem ld_X4_readAtom : aLd yX4_readAtom 2 := ⟨by decide +kernel, by decide +kernel, by decide +kernel⟩
set_option maxRecDepth 100000 in
theorem lk_X4_69 : aLV RX4 69 yX4_readAtom cX4_readAtom 6 (some .boolean) 2 := ⟨gm 642 rfl rfl, gm 644 rfl rfl, gm 7 rfl rfl, gm 117 rfl rfl, gm 645 rfl rfl, ld_X4_readAtom⟩
set_option maxRecDepth 100000 in
theorem ld_X4_letterOf : aLd yX4_letterOf 1 := ⟨by decide +kernel, by decide +kernel, by decide +kernel⟩
set_option maxRecDepth 100000 in
theorem lk_X4_72 : aLS RX4 72 yX4_letterOf cX4_letterOf 2 (some .int) 1 := ⟨gm 647 rfl rfl, gm 648 rfl rfl, gm 117 rfl rfl, gm 649 rfl rfl, ld_X4_letterOf⟩
set_option maxRecDepth 100000 in
theorem lk_X4_76 : aLV RX4 76 yX10_number cX10_number 4 (some .int) 1 := ⟨gm 656 rfl rfl, gm 582 rfl rfl, gm 583 rfl rfl, gm 115 rfl rfl, gm 584 rfl rfl, ld_X10_number⟩
set_option maxRecDepth 100000 in
theorem lk_X4_81 : aLV RX4 81 yJ0_charAt_5068e cJ0_charAt_5068e 2 (some .char) 1 := ⟨gm 651 rfl rfl, gm 542 rfl rfl, gm 543 rfl rfl, gm 128 rfl rfl, gm 544 rfl rfl, ld_J0_charAt_5068e⟩
set_option maxRecDepth 100000 in
theorem ld_X4_push : aLd yX4_push 1 := ⟨by decide +kernel, by decide +kernel, by decide +kernel⟩
set_option maxRecDepth 100000 in
theorem lk_X4_90 : aLV RX4 90 yX4_push cX4_push 2 none 1 := ⟨gm 889 rfl rfl, gm 891 rfl rfl, gm 21 rfl rfl, gm 117 rfl rfl, gm 892 rfl rfl, ld_X4_push⟩
set_option maxRecDepth 100000 in
theorem ld_X4_pop : aLd yX4_pop 0 := ⟨by decide +kernel, by decide +kernel, by decide +kernel⟩
set_option maxRecDepth 100000 in
theorem lk_X4_93 : aLV RX4 93 yX4_pop cX4_pop 1 (some .int) 0 := ⟨gm 893 rfl rfl, gm 895 rfl rfl, gm 22 rfl rfl, gm 117 rfl rfl, gm 896 rfl rfl, ld_X4_pop⟩
set_option maxRecDepth 100000 in
theorem ld_X4_joined : aLd yX4_joined 3 := ⟨by decide +kernel, by decide +kernel, by decide +kernel⟩
set_option maxRecDepth 100000 in
theorem lk_X4_96 : aLS RX4 96 yX4_joined cX4_joined 3 (some .int) 3 := ⟨gm 897 rfl rfl, gm 898 rfl rfl, gm 117 rfl rfl, gm 899 rfl rfl, ld_X4_joined⟩
set_option maxRecDepth 100000 in
theorem lk_X4_104 : aLS RX4 104 yJ9_min_f86c9 cJ9_min_f86c9 4 (some .long) 2 := ⟨gm 902 rfl rfl, gm 903 rfl rfl, gm 132 rfl rfl, gm 904 rfl rfl, ld_J9_min_f86c9⟩
set_option maxRecDepth 100000 in
theorem lk_X4_110 : aLS RX4 110 yJ9_max_f86c9 cJ9_max_f86c9 4 (some .long) 2 := ⟨gm 905 rfl rfl, gm 906 rfl rfl, gm 132 rfl rfl, gm 907 rfl rfl, ld_J9_max_f86c9⟩
set_option maxRecDepth 100000 in
theorem lk_X4_115 : aLm RX4 115 Lib.Math.min.name Lib.Math.min.code 2 := ⟨gm 910 rfl rfl, gm 911 rfl rfl, gm 132 rfl rfl, gm 912 rfl rfl⟩
set_option maxRecDepth 100000 in
theorem lk_X4_118 : aLm RX4 118 Lib.Math.max.name Lib.Math.max.code 2 := ⟨gm 913 rfl rfl, gm 914 rfl rfl, gm 132 rfl rfl, gm 915 rfl rfl⟩
set_option maxRecDepth 100000 in
theorem lk_X5_3 : aLO RX5 3 := ⟨gm 196 rfl rfl, gm 145 rfl rfl, gm 146 rfl rfl⟩
set_option maxRecDepth 100000 in
theorem lk_X5_19 : aLV RX5 19 yX10_rewind cX10_rewind 1 none 0 := ⟨gm 684 rfl rfl, gm 519 rfl rfl, gm 520 rfl rfl, gm 115 rfl rfl, gm 521 rfl rfl, ld_X10_rewind⟩
set_option maxRecDepth 100000 in
theorem ld_X5_readStep : aLd yX5_readStep 2 := ⟨by decide +kernel, by decide +kernel, by decide +kernel⟩
set_option maxRecDepth 100000 in
theorem lk_X5_24 : aLV RX5 24 yX5_readStep cX5_readStep 5 (some .boolean) 2 := ⟨gm 685 rfl rfl, gm 687 rfl rfl, gm 13 rfl rfl, gm 118 rfl rfl, gm 688 rfl rfl, ld_X5_readStep⟩
set_option maxRecDepth 100000 in
theorem lk_X5_28 : aLV RX5 28 yX10_ahead cX10_ahead 1 (some .int) 0 := ⟨gm 689 rfl rfl, gm 523 rfl rfl, gm 524 rfl rfl, gm 115 rfl rfl, gm 525 rfl rfl, ld_X10_ahead⟩
set_option maxRecDepth 100000 in
theorem lk_X5_32 : aLV RX5 32 yX10_takes cX10_takes 2 (some .boolean) 1 := ⟨gm 701 rfl rfl, gm 615 rfl rfl, gm 616 rfl rfl, gm 115 rfl rfl, gm 617 rfl rfl, ld_X10_takes⟩
set_option maxRecDepth 100000 in
theorem ld_X5_kindOf : aLd yX5_kindOf 1 := ⟨by decide +kernel, by decide +kernel, by decide +kernel⟩
set_option maxRecDepth 100000 in
theorem lk_X5_36 : aLS RX5 36 yX5_kindOf cX5_kindOf 2 (some .int) 1 := ⟨gm 690 rfl rfl, gm 691 rfl rfl, gm 118 rfl rfl, gm 692 rfl rfl, ld_X5_kindOf⟩
set_option maxRecDepth 100000 in
theorem lk_X5_40 : aLV RX5 40 yX10_pass cX10_pass 1 none 0 := ⟨gm 695 rfl rfl, gm 531 rfl rfl, gm 532 rfl rfl, gm 115 rfl rfl, gm 533 rfl rfl, ld_X10_pass⟩
set_option maxRecDepth 100000 in
theorem ld_X10_digit : aLd yX10_digit 0 := ⟨by decide +kernel, by decide +kernel, by decide +kernel⟩
set_option maxRecDepth 100000 in
theorem lk_X5_43 : aLV RX5 43 yX10_digit cX10_digit 2 (some .int) 0 := ⟨gm 696 rfl rfl, gm 697 rfl rfl, gm 698 rfl rfl, gm 115 rfl rfl, gm 699 rfl rfl, ld_X10_digit⟩
set_option maxRecDepth 100000 in
theorem lk_X5_46 : aLV RX5 46 yX10_stayAtLastDigit cX10_stayAtLastDigit 1 none 0 := ⟨gm 700 rfl rfl, gm 595 rfl rfl, gm 596 rfl rfl, gm 115 rfl rfl, gm 597 rfl rfl, ld_X10_stayAtLastDigit⟩
set_option maxRecDepth 100000 in
theorem lk_X5_51 : aLV RX5 51 yJ0_charAt_5068e cJ0_charAt_5068e 2 (some .char) 1 := ⟨gm 694 rfl rfl, gm 542 rfl rfl, gm 543 rfl rfl, gm 128 rfl rfl, gm 544 rfl rfl, ld_J0_charAt_5068e⟩
set_option maxRecDepth 100000 in
theorem lk_X6_3 : aLO RX6 3 := ⟨gm 285 rfl rfl, gm 145 rfl rfl, gm 146 rfl rfl⟩
set_option maxRecDepth 100000 in
theorem ld_X8_copyTo : aLd yX8_copyTo 2 := ⟨by decide +kernel, by decide +kernel, by decide +kernel⟩
set_option maxRecDepth 100000 in
theorem lk_X6_35 : aLV RX6 35 yX8_copyTo cX8_copyTo 3 none 2 := ⟨gm 809 rfl rfl, gm 810 rfl rfl, gm 811 rfl rfl, gm 120 rfl rfl, gm 812 rfl rfl, ld_X8_copyTo⟩
set_option maxRecDepth 100000 in
theorem lk_X6_39 : aLm RX6 39 Lib.Math.min.name Lib.Math.min.code 2 := ⟨gm 991 rfl rfl, gm 911 rfl rfl, gm 132 rfl rfl, gm 912 rfl rfl⟩
set_option maxRecDepth 100000 in
theorem ld_X8_copyBack : aLd yX8_copyBack 2 := ⟨by decide +kernel, by decide +kernel, by decide +kernel⟩
set_option maxRecDepth 100000 in
theorem lk_X6_45 : aLV RX6 45 yX8_copyBack cX8_copyBack 3 none 2 := ⟨gm 1081 rfl rfl, gm 1082 rfl rfl, gm 1083 rfl rfl, gm 120 rfl rfl, gm 1084 rfl rfl, ld_X8_copyBack⟩
set_option maxRecDepth 100000 in
theorem ld_X8_borders : aLd yX8_borders 0 := ⟨by decide +kernel, by decide +kernel, by decide +kernel⟩
set_option maxRecDepth 100000 in
theorem lk_X6_48 : aLV RX6 48 yX8_borders cX8_borders 1 (some .int) 0 := ⟨gm 1008 rfl rfl, gm 1009 rfl rfl, gm 1010 rfl rfl, gm 120 rfl rfl, gm 1011 rfl rfl, ld_X8_borders⟩
set_option maxRecDepth 100000 in
theorem ld_X8_addBorder : aLd yX8_addBorder 0 := ⟨by decide +kernel, by decide +kernel, by decide +kernel⟩
set_option maxRecDepth 100000 in
theorem lk_X6_52 : aLV RX6 52 yX8_addBorder cX8_addBorder 1 none 0 := ⟨gm 1012 rfl rfl, gm 1013 rfl rfl, gm 1014 rfl rfl, gm 120 rfl rfl, gm 1015 rfl rfl, ld_X8_addBorder⟩
set_option maxRecDepth 100000 in
theorem lk_X6_55 : aCw RX6 55 := ⟨gm 1439 rfl rfl, gm 517 rfl rfl, gm 516 rfl rfl, gm 127 rfl rfl⟩
set_option maxRecDepth 100000 in
theorem lk_X7_5 : aLO RX7 5 := ⟨gm 313 rfl rfl, gm 145 rfl rfl, gm 146 rfl rfl⟩
set_option maxRecDepth 100000 in
theorem lk_X7_45 : aLV RX7 45 yX1_papers cX1_papers 1 (some .int) 0 := ⟨gm 1179 rfl rfl, gm 824 rfl rfl, gm 825 rfl rfl, gm 119 rfl rfl, gm 826 rfl rfl, ld_X1_papers⟩
set_option maxRecDepth 100000 in
theorem lk_X7_48 : aLV RX7 48 yX8_inDrawer cX8_inDrawer 2 (some .int) 1 := ⟨gm 1180 rfl rfl, gm 953 rfl rfl, gm 954 rfl rfl, gm 120 rfl rfl, gm 955 rfl rfl, ld_X8_inDrawer⟩
set_option maxRecDepth 100000 in
theorem lk_X7_54 : aLV RX7 54 yX3_turnOf cX3_turnOf 5 (some .int) 3 := ⟨gm 1145 rfl rfl, gm 957 rfl rfl, gm 958 rfl rfl, gm 121 rfl rfl, gm 959 rfl rfl, ld_X3_turnOf⟩
set_option maxRecDepth 100000 in
theorem lk_X7_60 : aLV RX7 60 yX8_saidFor cX8_saidFor 2 (some .int) 1 := ⟨gm 1159 rfl rfl, gm 844 rfl rfl, gm 845 rfl rfl, gm 120 rfl rfl, gm 846 rfl rfl, ld_X8_saidFor⟩
set_option maxRecDepth 100000 in
theorem lk_X7_63 : aLV RX7 63 yX3_waitOf cX3_waitOf 6 (some .int) 4 := ⟨gm 1160 rfl rfl, gm 976 rfl rfl, gm 977 rfl rfl, gm 121 rfl rfl, gm 978 rfl rfl, ld_X3_waitOf⟩
set_option maxRecDepth 100000 in
theorem lk_X7_67 : aLm RX7 67 Lib.Math.max.name Lib.Math.max.code 2 := ⟨gm 1161 rfl rfl, gm 914 rfl rfl, gm 132 rfl rfl, gm 915 rfl rfl⟩
set_option maxRecDepth 100000 in
theorem ld_X7_layOutPapers : aLd yX7_layOutPapers 1 := ⟨by decide +kernel, by decide +kernel, by decide +kernel⟩
set_option maxRecDepth 100000 in
theorem lk_X7_73 : aLV RX7 73 yX7_layOutPapers cX7_layOutPapers 4 none 1 := ⟨gm 1139 rfl rfl, gm 1141 rfl rfl, gm 30 rfl rfl, gm 123 rfl rfl, gm 1142 rfl rfl, ld_X7_layOutPapers⟩
set_option maxRecDepth 100000 in
theorem ld_X7_overWith : aLd yX7_overWith 3 := ⟨by decide +kernel, by decide +kernel, by decide +kernel⟩
set_option maxRecDepth 100000 in
theorem lk_X7_81 : aLV RX7 81 yX7_overWith cX7_overWith 7 (some .int) 3 := ⟨gm 1148 rfl rfl, gm 1150 rfl rfl, gm 31 rfl rfl, gm 123 rfl rfl, gm 1151 rfl rfl, ld_X7_overWith⟩
set_option maxRecDepth 100000 in
theorem lk_X7_85 : aLm RX7 85 Lib.Math.min.name Lib.Math.min.code 2 := ⟨gm 1162 rfl rfl, gm 911 rfl rfl, gm 132 rfl rfl, gm 912 rfl rfl⟩
set_option maxRecDepth 100000 in
theorem lk_X7_91 : aLV RX7 91 yX1_sleepers cX1_sleepers 1 (some .int) 0 := ⟨gm 1143 rfl rfl, gm 727 rfl rfl, gm 728 rfl rfl, gm 119 rfl rfl, gm 729 rfl rfl, ld_X1_sleepers⟩
set_option maxRecDepth 100000 in
theorem lk_X7_94 : aLV RX7 94 yX1_hasPaper cX1_hasPaper 2 (some .boolean) 1 := ⟨gm 1144 rfl rfl, gm 603 rfl rfl, gm 604 rfl rfl, gm 119 rfl rfl, gm 605 rfl rfl, ld_X1_hasPaper⟩
set_option maxRecDepth 100000 in
theorem lk_X7_98 : aLV RX7 98 yX3_takesCoffee cX3_takesCoffee 3 (some .boolean) 2 := ⟨gm 1146 rfl rfl, gm 980 rfl rfl, gm 981 rfl rfl, gm 121 rfl rfl, gm 982 rfl rfl, ld_X3_takesCoffee⟩
set_option maxRecDepth 100000 in
theorem lk_X7_102 : aLV RX7 102 yX8_coffees cX8_coffees 1 (some .int) 0 := ⟨gm 1152 rfl rfl, gm 761 rfl rfl, gm 762 rfl rfl, gm 120 rfl rfl, gm 763 rfl rfl, ld_X8_coffees⟩
set_option maxRecDepth 100000 in
theorem lk_X7_105 : aLS RX7 105 yJ6_bitCount_0f7a4 cJ6_bitCount_0f7a4 1 (some .int) 1 := ⟨gm 1153 rfl rfl, gm 1154 rfl rfl, gm 138 rfl rfl, gm 1155 rfl rfl, ld_J6_bitCount_0f7a4⟩
set_option maxRecDepth 100000 in
theorem ld_X7_leastBehind : aLd yX7_leastBehind 2 := ⟨by decide +kernel, by decide +kernel, by decide +kernel⟩
set_option maxRecDepth 100000 in
theorem lk_X7_110 : aLV RX7 110 yX7_leastBehind cX7_leastBehind 5 (some .int) 2 := ⟨gm 1358 rfl rfl, gm 1360 rfl rfl, gm 46 rfl rfl, gm 123 rfl rfl, gm 1361 rfl rfl, ld_X7_leastBehind⟩
set_option maxRecDepth 100000 in
theorem ld_X7_troubleWith : aLd yX7_troubleWith 3 := ⟨by decide +kernel, by decide +kernel, by decide +kernel⟩
set_option maxRecDepth 100000 in
theorem lk_X7_113 : aLV RX7 113 yX7_troubleWith cX7_troubleWith 7 (some .int) 3 := ⟨gm 1362 rfl rfl, gm 1364 rfl rfl, gm 47 rfl rfl, gm 123 rfl rfl, gm 1365 rfl rfl, ld_X7_troubleWith⟩
set_option maxRecDepth 100000 in
theorem lk_X7_116 : aLV RX7 116 yX1_ofSleeper cX1_ofSleeper 3 (some .int) 2 := ⟨gm 1366 rfl rfl, gm 611 rfl rfl, gm 612 rfl rfl, gm 119 rfl rfl, gm 613 rfl rfl, ld_X1_ofSleeper⟩
set_option maxRecDepth 100000 in
theorem lk_X8_3 : aLO RX8 3 := ⟨gm 253 rfl rfl, gm 145 rfl rfl, gm 146 rfl rfl⟩
set_option maxRecDepth 100000 in
theorem ld_J7_fill_53178 : aLd yJ7_fill_53178 2 := ⟨by decide +kernel, by decide +kernel, by decide +kernel⟩
set_option maxRecDepth 100000 in
theorem lk_X8_15 : aLS RX8 15 yJ7_fill_53178 cJ7_fill_53178 4 none 2 := ⟨gm 723 rfl rfl, gm 724 rfl rfl, gm 133 rfl rfl, gm 725 rfl rfl, ld_J7_fill_53178⟩
set_option maxRecDepth 100000 in
theorem lk_X8_21 : aLV RX8 21 yX1_sleepers cX1_sleepers 1 (some .int) 0 := ⟨gm 726 rfl rfl, gm 727 rfl rfl, gm 728 rfl rfl, gm 119 rfl rfl, gm 729 rfl rfl, ld_X1_sleepers⟩
set_option maxRecDepth 100000 in
theorem lk_X8_27 : aLV RX8 27 yX1_hasPaper cX1_hasPaper 2 (some .boolean) 1 := ⟨gm 730 rfl rfl, gm 603 rfl rfl, gm 604 rfl rfl, gm 119 rfl rfl, gm 605 rfl rfl, ld_X1_hasPaper⟩
set_option maxRecDepth 100000 in
theorem lk_X8_31 : aLV RX8 31 yX1_ruleOf cX1_ruleOf 2 (some .int) 1 := ⟨gm 731 rfl rfl, gm 732 rfl rfl, gm 733 rfl rfl, gm 119 rfl rfl, gm 734 rfl rfl, ld_X1_ruleOf⟩
set_option maxRecDepth 100000 in
theorem lk_X8_35 : aCw RX8 35 := ⟨gm 813 rfl rfl, gm 517 rfl rfl, gm 516 rfl rfl, gm 127 rfl rfl⟩
set_option maxRecDepth 100000 in
theorem lk_X8_41 : aLm RX8 41 Lib.Math.abs.name Lib.Math.abs.code 1 := ⟨gm 882 rfl rfl, gm 883 rfl rfl, gm 132 rfl rfl, gm 884 rfl rfl⟩
set_option maxRecDepth 100000 in
theorem ld_X8_sumFrom : aLd yX8_sumFrom 1 := ⟨by decide +kernel, by decide +kernel, by decide +kernel⟩
set_option maxRecDepth 100000 in
theorem lk_X8_46 : aLV RX8 46 yX8_sumFrom cX8_sumFrom 4 (some .int) 1 := ⟨gm 934 rfl rfl, gm 936 rfl rfl, gm 24 rfl rfl, gm 120 rfl rfl, gm 937 rfl rfl, ld_X8_sumFrom⟩
set_option maxRecDepth 100000 in
theorem lk_X9_3 : aLO RX9 3 := ⟨gm 169 rfl rfl, gm 145 rfl rfl, gm 146 rfl rfl⟩
set_option maxRecDepth 100000 in
theorem ld_X4_init : aLd yX4_init 0 := ⟨by decide +kernel, by decide +kernel, by decide +kernel⟩
set_option maxRecDepth 100000 in
theorem lk_X9_23 : aLN RX9 23 yX4_init cX4_init 1 0 := ⟨by decide +kernel, gm 176 rfl rfl, gm 117 rfl rfl, gm 177 rfl rfl, ld_X4_init, rfl⟩
set_option maxRecDepth 100000 in
theorem ld_X5_init : aLd yX5_init 0 := ⟨by decide +kernel, by decide +kernel, by decide +kernel⟩
set_option maxRecDepth 100000 in
theorem lk_X9_28 : aLN RX9 28 yX5_init cX5_init 1 0 := ⟨by decide +kernel, gm 194 rfl rfl, gm 118 rfl rfl, gm 195 rfl rfl, ld_X5_init, rfl⟩
set_option maxRecDepth 100000 in
theorem kc_J6_265 : Cond.constant RJ6 265 (1431655765) ∈ gtbl := gm 1156 rfl rfl
set_option maxRecDepth 100000 in
theorem kc_J6_266 : Cond.constant RJ6 266 (858993459) ∈ gtbl := gm 1157 rfl rfl
set_option maxRecDepth 100000 in
theorem kc_J6_267 : Cond.constant RJ6 267 (252645135) ∈ gtbl := gm 1158 rfl rfl
set_option maxRecDepth 100000 in
theorem kc_L_88 : Cond.constantLong RL 88 (4294967295) ∈ gtbl := gm 2234 rfl rfl
set_option maxRecDepth 100000 in
theorem kc_X0_150 : Cond.constant RX0 150 (1000000000) ∈ gtbl := gm 1257 rfl rfl
set_option maxRecDepth 100000 in
theorem kc_X11_219 : Cond.constant RX11 219 (-1000000) ∈ gtbl := gm 1105 rfl rfl
set_option maxRecDepth 100000 in
theorem kc_X11_381 : Cond.constantLong RX11 381 (6364136223846793005) ∈ gtbl := gm 1060 rfl rfl
set_option maxRecDepth 100000 in
theorem kc_X11_383 : Cond.constantLong RX11 383 (1442695040888963407) ∈ gtbl := gm 1061 rfl rfl
set_option maxRecDepth 100000 in
theorem kc_X12_144 : Cond.constantLong RX12 144 (-1000000) ∈ gtbl := gm 1868 rfl rfl
set_option maxRecDepth 100000 in
theorem kc_X12_146 : Cond.constantLong RX12 146 (1000000) ∈ gtbl := gm 1869 rfl rfl
set_option maxRecDepth 100000 in
theorem kc_X12_278 : Cond.constantLong RX12 278 (2) ∈ gtbl := gm 1751 rfl rfl
set_option maxRecDepth 100000 in
theorem kc_X12_367 : Cond.constantLong RX12 367 (3) ∈ gtbl := gm 1901 rfl rfl
set_option maxRecDepth 100000 in
theorem kc_X12_372 : Cond.constantLong RX12 372 (10) ∈ gtbl := gm 1910 rfl rfl
set_option maxRecDepth 100000 in
theorem kc_X12_377 : Cond.constantLong RX12 377 (99) ∈ gtbl := gm 1927 rfl rfl
set_option maxRecDepth 100000 in
theorem kc_X12_423 : Cond.constantLong RX12 423 (6364136223846793005) ∈ gtbl := gm 2050 rfl rfl
set_option maxRecDepth 100000 in
theorem kc_X12_425 : Cond.constantLong RX12 425 (1442695040888963407) ∈ gtbl := gm 2051 rfl rfl
set_option maxRecDepth 100000 in
theorem kc_X12_433 : Cond.constantLong RX12 433 (20) ∈ gtbl := gm 2037 rfl rfl
set_option maxRecDepth 100000 in
theorem kc_X12_441 : Cond.constant RX12 441 (-1000000) ∈ gtbl := gm 2068 rfl rfl
set_option maxRecDepth 100000 in
theorem kc_X12_470 : Cond.constantLong RX12 470 (999) ∈ gtbl := gm 2132 rfl rfl
set_option maxRecDepth 100000 in
theorem kc_X12_475 : Cond.constant RX12 475 (1000000) ∈ gtbl := gm 2141 rfl rfl
set_option maxRecDepth 100000 in
theorem kc_X12_488 : Cond.constantLong RX12 488 (9) ∈ gtbl := gm 2168 rfl rfl
set_option maxRecDepth 100000 in
theorem kc_X2_58 : Cond.constant RX2 58 (1000000) ∈ gtbl := gm 1293 rfl rfl
set_option maxRecDepth 100000 in
theorem kc_X4_100 : Cond.constantLong RX4 100 (-1000000) ∈ gtbl := gm 900 rfl rfl
set_option maxRecDepth 100000 in
theorem kc_X4_102 : Cond.constantLong RX4 102 (1000000) ∈ gtbl := gm 901 rfl rfl
set_option maxRecDepth 100000 in
theorem kc_X4_113 : Cond.constant RX4 113 (-1000000) ∈ gtbl := gm 908 rfl rfl
set_option maxRecDepth 100000 in
theorem kc_X4_114 : Cond.constant RX4 114 (1000000) ∈ gtbl := gm 909 rfl rfl
set_option maxRecDepth 100000 in
theorem kc_X7_80 : Cond.constant RX7 80 (1000000000) ∈ gtbl := gm 1147 rfl rfl
