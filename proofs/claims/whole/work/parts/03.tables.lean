/-! the tables of the small machine: own classes 0 .. 12, the law 13; own methods by numbers -/
def mi_RX : Nat → String := fun k => ([RX0, RX1, RX2, RX3, RX4, RX5, RX6, RX7, RX8, RX9, RX10, RX11, RX12, RL] : List String).getD k ""
def mi_T : Nat → u_T := fun k => ([TX0, TX1, TX2, TX3, TX4, TX5, TX6, TX7, TX8, TX9, TX10, TX11, TX12] : List u_T).getD k TX0
def mi_Ty : Nat → Nat → FieldType := fun k => ([tyX0, tyX1, tyX2, tyX3, tyX4, tyX5, tyX6, tyX7, tyX8, tyX9, tyX10, tyX11, tyX12] : List (Nat → FieldType)).getD k tyX0
def mi_n : Nat → Nat := fun k => ([10, 5, 11, 2, 7, 3, 2, 4, 6, 4, 4, 8, 49] : List Nat).getD k 0
abbrev mi_Mt : Type := MethodName × ByteArray × Nat × Option FieldType × Nat × Bool
def mi_M0 : List mi_Mt := [(yX0_init, cX0_init, 1, none, 0, true), (yX0_clear, cX0_clear, 1, none, 0, false), (yX0_has, cX0_has, 2, (some .boolean), 0, false), (yX0_isLeaf, cX0_isLeaf, 2, (some .boolean), 0, false), (yX0_isShut, cX0_isShut, 2, (some .boolean), 0, false), (yX0_setShut, cX0_setShut, 3, none, 0, false), (yX0_takesChild, cX0_takesChild, 3, (some .boolean), 0, false), (yX0_hasCode, cX0_hasCode, 3, (some .boolean), 0, false), (yX0_add, cX0_add, 6, (some .int), 0, false), (yX0_putByCode, cX0_putByCode, 3, none, 0, false), (yX0_enterLine, cX0_enterLine, 4, none, 0, false), (yX0_totalUnder, cX0_totalUnder, 6, (some .long), 0, false), (yX0_isUnder, cX0_isUnder, 5, (some .boolean), 0, false), (yX0_totalOfKind, cX0_totalOfKind, 5, (some .long), 0, false), (yX0_told, cX0_told, 3, (some .int), 0, false), (yX1_init, cX1_init, 1, none, 1, true), (yX1_clear, cX1_clear, 1, none, 1, false), (yX1_refusesAccount, cX1_refusesAccount, 4, (some .int), 1, false), (yX1_refusesShut, cX1_refusesShut, 3, (some .int), 1, false), (yX1_refusesPeriod, cX1_refusesPeriod, 2, (some .int), 1, false), (yX1_refusesOwner, cX1_refusesOwner, 2, (some .int), 1, false), (yX1_changeOwner, cX1_changeOwner, 3, (some .int), 1, false), (yX1_refusesLine, cX1_refusesLine, 4, (some .int), 1, false), (yX1_judge, cX1_judge, 4, (some .int), 1, false), (yX1_refusesUnjudged, cX1_refusesUnjudged, 2, (some .int), 1, false), (yX1_hasShut, cX1_hasShut, 3, (some .boolean), 1, false), (yX1_goesOver, cX1_goesOver, 4, (some .boolean), 1, false), (yX1_enter, cX1_enter, 7, (some .int), 1, false), (yX1_refusesBack, cX1_refusesBack, 4, (some .int), 1, false), (yX1_turnBack, cX1_turnBack, 5, (some .int), 1, false), (yX1_refusesClose, cX1_refusesClose, 2, (some .int), 1, false), (yX1_fillClosing, cX1_fillClosing, 5, none, 1, false), (yX1_isClosedOut, cX1_isClosedOut, 3, (some .boolean), 1, false), (yX1_closePeriod, cX1_closePeriod, 4, (some .int), 1, false), (yX1_refusesReopen, cX1_refusesReopen, 3, (some .int), 1, false), (yX1_reopenPeriod, cX1_reopenPeriod, 3, (some .int), 1, false), (yX1_sumInDays, cX1_sumInDays, 4, (some .long), 1, false), (yX2_init, cX2_init, 1, none, 2, true), (yX2_clear, cX2_clear, 1, none, 2, false), (yX2_has, cX2_has, 2, (some .boolean), 2, false)]
def mi_M1 : List mi_Mt := [(yX2_add, cX2_add, 8, (some .int), 2, false), (yX2_accountOf, cX2_accountOf, 3, (some .int), 2, false), (yX2_amountOf, cX2_amountOf, 3, (some .long), 2, false), (yX2_turn, cX2_turn, 4, none, 2, false), (yX2_gather, cX2_gather, 6, none, 2, false), (yX2_ledgerLine, cX2_ledgerLine, 9, (some .long), 2, false), (yX2_toldOfLedger, cX2_toldOfLedger, 6, (some .long), 2, false), (yX2_told, cX2_told, 3, (some .int), 2, false), (yX3_init, cX3_init, 2, none, 3, true), (yX3_at, cX3_at, 2, (some .int), 3, false), (yX3_put, cX3_put, 3, none, 3, false), (yX4_init, cX4_init, 1, none, 4, true), (yX4_begin, cX4_begin, 2, none, 4, false), (yX4_number, cX4_number, 7, none, 4, false), (yX4_write, cX4_write, 3, (some .boolean), 4, false), (yX4_put, cX4_put, 2, none, 4, false), (yX4_checkOf, cX4_checkOf, 6, (some .int), 4, false), (yX4_recordAt, cX4_recordAt, 5, (some .int), 4, false), (yX4_makeDurable, cX4_makeDurable, 2, (some .int), 4, false), (yX4_tear, cX4_tear, 4, none, 4, false), (yX4_cut, cX4_cut, 3, none, 4, false), (yX5_init, cX5_init, 2, none, 5, true), (yX5_clear, cX5_clear, 1, none, 5, false), (yX5_add, cX5_add, 4, none, 5, false), (yX5_total, cX5_total, 4, (some .long), 5, false), (yX6_init, cX6_init, 2, none, 6, true), (yX6_at, cX6_at, 2, (some .long), 6, false), (yX6_put, cX6_put, 4, none, 6, false), (yX6_addTo, cX6_addTo, 4, none, 6, false), (yX6_clear, cX6_clear, 1, none, 6, false), (yX7_init, cX7_init, 1, none, 7, true), (yX7_clear, cX7_clear, 1, none, 7, false), (yX7_has, cX7_has, 2, (some .boolean), 7, false), (yX7_add, cX7_add, 3, (some .int), 7, false), (yX7_firstDay, cX7_firstDay, 2, (some .int), 7, false), (yX7_lastDay, cX7_lastDay, 2, (some .int), 7, false), (yX7_firstFreeDay, cX7_firstFreeDay, 1, (some .int), 7, false), (yX7_withDay, cX7_withDay, 3, (some .int), 7, false), (yX7_closingOf, cX7_closingOf, 2, (some .int), 7, false), (yX7_closeFirstOpen, cX7_closeFirstOpen, 2, none, 7, false)]
def mi_M2 : List mi_Mt := [(yX7_openLastClosed, cX7_openLastClosed, 1, none, 7, false), (yX7_told, cX7_told, 3, (some .int), 7, false), (yX8_init, cX8_init, 3, none, 8, true), (yX8_redoAll, cX8_redoAll, 4, none, 8, false), (yX8_redo, cX8_redo, 3, (some .boolean), 8, false), (yX8_redoAccount, cX8_redoAccount, 5, (some .boolean), 8, false), (yX8_redoShut, cX8_redoShut, 3, (some .boolean), 8, false), (yX8_redoPeriod, cX8_redoPeriod, 2, (some .boolean), 8, false), (yX8_redoOwner, cX8_redoOwner, 2, (some .boolean), 8, false), (yX8_redoPost, cX8_redoPost, 3, (some .boolean), 8, false), (yX8_readLines, cX8_readLines, 6, (some .boolean), 8, false), (yX8_redoBack, cX8_redoBack, 3, (some .boolean), 8, false), (yX8_redoClose, cX8_redoClose, 1, (some .boolean), 8, false), (yX8_redoReopen, cX8_redoReopen, 1, (some .boolean), 8, false), (yX8_isReadWhole, cX8_isReadWhole, 1, (some .boolean), 8, false), (yX8_nextFlag, cX8_nextFlag, 3, (some .boolean), 8, false), (yX8_nextInt, cX8_nextInt, 3, (some .int), 8, false), (yX8_nextNumber, cX8_nextNumber, 5, (some .long), 8, false), (yX9_init, cX9_init, 1, none, 9, true), (yX9_clear, cX9_clear, 1, none, 9, false), (yX9_add, cX9_add, 2, none, 9, false), (yX9_divide, cX9_divide, 10, (some .boolean), 9, false), (yX9_giveRest, cX9_giveRest, 9, none, 9, false), (yX9_withGreatestRemainder, cX9_withGreatestRemainder, 3, (some .int), 9, false), (yX10_init, cX10_init, 2, none, 10, true), (yX10_clear, cX10_clear, 1, none, 10, false), (yX10_write, cX10_write, 3, (some .boolean), 10, false), (yX10_writeLeaves, cX10_writeLeaves, 3, none, 10, false), (yX10_writeUnder, cX10_writeUnder, 6, none, 10, false), (yX10_writeKinds, cX10_writeKinds, 6, none, 10, false), (yX10_writeTotal, cX10_writeTotal, 4, none, 10, false), (yX10_writeRow, cX10_writeRow, 3, none, 10, false), (yX10_putMoney, cX10_putMoney, 7, none, 10, false), (yX10_put, cX10_put, 2, none, 10, false), (yX11_init, cX11_init, 1, none, 11, true), (yX11_account, cX11_account, 6, (some .int), 11, false), (yX11_shut, cX11_shut, 4, (some .int), 11, false), (yX11_period, cX11_period, 3, (some .int), 11, false), (yX11_owner, cX11_owner, 3, (some .int), 11, false), (yX11_line, cX11_line, 5, (some .int), 11, false)]
def mi_M3 : List mi_Mt := [(yX11_drop, cX11_drop, 2, (some .int), 11, false), (yX11_post, cX11_post, 3, (some .int), 11, false), (yX11_back, cX11_back, 4, (some .int), 11, false), (yX11_close, cX11_close, 2, (some .int), 11, false), (yX11_reopen, cX11_reopen, 2, (some .int), 11, false), (yX11_share, cX11_share, 7, (some .int), 11, false), (yX11_sync, cX11_sync, 1, (some .int), 11, false), (yX11_crash, cX11_crash, 3, (some .int), 11, false), (yX11_recover, cX11_recover, 1, (some .int), 11, false), (yX11_byteAt, cX11_byteAt, 2, (some .int), 11, false), (yX11_of, cX11_of, 3, (some .int), 11, false), (yX11_balance, cX11_balance, 2, (some .long), 11, false), (yX11_sum, cX11_sum, 4, (some .long), 11, false), (yX11_entry, cX11_entry, 3, (some .int), 11, false), (yX11_lineOf, cX11_lineOf, 4, (some .long), 11, false), (yX11_ledger, cX11_ledger, 4, (some .long), 11, false), (yX11_periodOf, cX11_periodOf, 3, (some .int), 11, false), (yX11_sheet, cX11_sheet, 2, (some .int), 11, false), (yX11_shown, cX11_shown, 2, (some .int), 11, false), (yX11_part, cX11_part, 8, (some .long), 11, false), (yX11_count, cX11_count, 2, (some .int), 11, false), (yX11_countOfBooks, cX11_countOfBooks, 2, (some .int), 11, false), (yX11_writePlain, cX11_writePlain, 6, (some .int), 11, false), (yX11_refusesShare, cX11_refusesShare, 4, (some .int), 11, false), (yX11_shareOut, cX11_shareOut, 5, none, 11, false), (yX11_areWeights, cX11_areWeights, 4, (some .boolean), 11, false), (yX11_isPartWeight, cX11_isPartWeight, 1, (some .boolean), 11, false), (yX11_isAmount, cX11_isAmount, 2, (some .boolean), 11, false), (yX11_isWithin, cX11_isWithin, 4, (some .boolean), 11, false), (yX12_init, cX12_init, 1, none, 12, true), (yX12_in, cX12_in, 6, (some .boolean), 12, false), (yX12_isAccount, cX12_isAccount, 2, (some .boolean), 12, false), (yX12_begin, cX12_begin, 1, none, 12, false), (yX12_say, cX12_say, 5, none, 12, false), (yX12_hasRoom, cX12_hasRoom, 1, (some .boolean), 12, false), (yX12_checked, cX12_checked, 4, (some .int), 12, false), (yX12_append, cX12_append, 2, none, 12, false), (yX12_write, cX12_write, 4, none, 12, false), (yX12_isTold, cX12_isTold, 4, (some .boolean), 12, false), (yX12_account, cX12_account, 6, (some .int), 12, false)]
def mi_M4 : List mi_Mt := [(yX12_shut, cX12_shut, 3, (some .int), 12, false), (yX12_firstDay, cX12_firstDay, 2, (some .int), 12, false), (yX12_period, cX12_period, 2, (some .int), 12, false), (yX12_owner, cX12_owner, 3, (some .int), 12, false), (yX12_line, cX12_line, 4, (some .int), 12, false), (yX12_drop, cX12_drop, 2, (some .int), 12, false), (yX12_hand, cX12_hand, 4, none, 12, false), (yX12_periodAt, cX12_periodAt, 4, (some .int), 12, false), (yX12_isOver, cX12_isOver, 5, (some .boolean), 12, false), (yX12_judged, cX12_judged, 6, (some .int), 12, false), (yX12_enter, cX12_enter, 7, (some .int), 12, false), (yX12_sayPost, cX12_sayPost, 4, none, 12, false), (yX12_posted, cX12_posted, 5, (some .int), 12, false), (yX12_post, cX12_post, 4, (some .int), 12, false), (yX12_back, cX12_back, 5, (some .int), 12, false), (yX12_turned, cX12_turned, 3, none, 12, false), (yX12_sumOf, cX12_sumOf, 8, (some .long), 12, false), (yX12_nextCode, cX12_nextCode, 4, (some .int), 12, false), (yX12_close, cX12_close, 7, (some .int), 12, false), (yX12_reopen, cX12_reopen, 3, (some .int), 12, false), (yX12_shares, cX12_shares, 10, none, 12, false), (yX12_share, cX12_share, 8, (some .int), 12, false), (yX12_part, cX12_part, 8, (some .long), 12, false), (yX12_sync, cX12_sync, 2, (some .int), 12, false), (yX12_crash, cX12_crash, 4, (some .int), 12, false), (yX12_number, cX12_number, 7, (some .long), 12, false), (yX12_whole, cX12_whole, 3, (some .int), 12, false), (yX12_truth, cX12_truth, 2, (some .boolean), 12, false), (yX12_isEnded, cX12_isEnded, 1, (some .boolean), 12, false), (yX12_isDone, cX12_isDone, 12, (some .boolean), 12, false), (yX12_isPosted, cX12_isPosted, 9, (some .boolean), 12, false), (yX12_isNext, cX12_isNext, 5, (some .boolean), 12, false), (yX12_recover, cX12_recover, 2, (some .int), 12, false), (yX12_byteAt, cX12_byteAt, 2, (some .int), 12, false), (yX12_of, cX12_of, 5, (some .int), 12, false), (yX12_isUnder, cX12_isUnder, 4, (some .boolean), 12, false), (yX12_balanceOf, cX12_balanceOf, 5, (some .long), 12, false), (yX12_balance, cX12_balance, 2, (some .long), 12, false), (yX12_sum, cX12_sum, 7, (some .long), 12, false), (yX12_entry, cX12_entry, 3, (some .int), 12, false)]
def mi_M5 : List mi_Mt := [(yX12_lineOf, cX12_lineOf, 4, (some .long), 12, false), (yX12_ledger, cX12_ledger, 9, (some .long), 12, false), (yX12_periodOf, cX12_periodOf, 3, (some .int), 12, false), (yX12_put, cX12_put, 2, none, 12, false), (yX12_money, cX12_money, 7, none, 12, false), (yX12_row, cX12_row, 3, none, 12, false), (yX12_tree, cX12_tree, 5, none, 12, false), (yX12_ofKind, cX12_ofKind, 5, (some .long), 12, false), (yX12_total, cX12_total, 3, none, 12, false), (yX12_sheet, cX12_sheet, 3, (some .int), 12, false), (yX12_shown, cX12_shown, 2, (some .int), 12, false), (yX12_count, cX12_count, 3, (some .int), 12, false), (yL_law, cL_law, maxLocals, ret, 13, false)]
def mi_M : List mi_Mt := mi_M0 ++ (mi_M1 ++ (mi_M2 ++ (mi_M3 ++ (mi_M4 ++ (mi_M5)))))
def mi_M_0 : mi_Mt := (yL_law, cL_law, 0, none, 99, false)
def mi_m (y : Nat) : mi_Mt := mi_M.getD y mi_M_0
def mi_N (y : Nat) : MethodName := (mi_m y).1
def mi_B (y : Nat) : ByteArray := (mi_m y).2.1
def mi_L (y : Nat) : Nat := (mi_m y).2.2.1
def mi_R (y : Nat) : Option FieldType := (mi_m y).2.2.2.1
def mi_O (y : Nat) : Nat := (mi_m y).2.2.2.2.1
def mi_X (y : Nat) : Bool := (mi_m y).2.2.2.2.2
/-- own class, pool place; method, how many values it takes, kind (0 virtual, 1 static, 2 ctor, 3 ctor of a nest mate, 4 static of a nest mate); places of the words -/
def mi_tC : List (Nat × Nat × Nat × Nat × Nat × Nat × Nat × Nat × Nat × Nat) := [(13, 9, 114, 1, 2, 89, 90, 0, 71, 91), (11, 25, 82, 3, 2, 316, 317, 0, 79, 318), (8, 11, 61, 2, 2, 322, 323, 0, 80, 324), (11, 34, 61, 2, 2, 369, 323, 0, 80, 324), (11, 57, 104, 2, 2, 396, 397, 0, 82, 398), (13, 13, 115, 5, 0, 442, 443, 444, 71, 445), (11, 68, 17, 4, 0, 446, 447, 448, 72, 449), (1, 50, 2, 2, 0, 450, 451, 452, 73, 453), (1, 54, 6, 3, 0, 454, 455, 456, 73, 457), (1, 58, 7, 2, 0, 462, 463, 464, 73, 465), (11, 72, 52, 2, 0, 466, 467, 468, 78, 469), (11, 75, 53, 2, 0, 470, 471, 472, 78, 473), (11, 79, 54, 1, 0, 499, 500, 501, 78, 502), (4, 39, 55, 2, 0, 503, 505, 0, 78, 506), (4, 45, 56, 3, 0, 508, 510, 1, 78, 511), (11, 83, 8, 5, 0, 514, 515, 516, 73, 517), (0, 67, 9, 2, 0, 533, 535, 2, 73, 536), (13, 18, 116, 3, 0, 537, 538, 539, 71, 540), (11, 89, 18, 3, 0, 541, 542, 543, 72, 544), (1, 64, 3, 2, 0, 545, 546, 547, 73, 548), (0, 52, 2, 2, 0, 549, 451, 452, 73, 453), (1, 67, 4, 2, 0, 550, 551, 552, 73, 553), (11, 93, 5, 3, 0, 554, 555, 556, 73, 557), (13, 23, 117, 2, 0, 558, 559, 560, 71, 561), (11, 97, 19, 2, 0, 562, 563, 564, 72, 565), (1, 70, 76, 1, 0, 566, 567, 568, 76, 569), (7, 38, 74, 2, 0, 570, 571, 572, 76, 573), (11, 105, 73, 2, 0, 575, 576, 577, 76, 578), (13, 28, 118, 2, 0, 580, 581, 582, 71, 583), (11, 109, 20, 2, 0, 584, 585, 586, 72, 587), (11, 112, 21, 2, 0, 589, 590, 591, 72, 592), (13, 34, 119, 3, 0, 593, 594, 595, 71, 596), (11, 115, 22, 3, 0, 597, 598, 599, 72, 600), (11, 239, 148, 2, 1, 605, 606, 0, 71, 607), (11, 123, 63, 3, 0, 608, 609, 610, 80, 611), (13, 39, 120, 1, 0, 614, 615, 616, 71, 617), (11, 126, 62, 1, 0, 618, 619, 620, 80, 621), (13, 44, 121, 3, 0, 622, 623, 624, 71, 625), (11, 129, 142, 4, 0, 626, 628, 3, 71, 629), (11, 276, 23, 3, 0, 630, 631, 632, 72, 633), (1, 92, 64, 1, 0, 634, 635, 636, 80, 637), (1, 96, 77, 2, 0, 642, 643, 644, 76, 645), (1, 102, 25, 2, 0, 646, 648, 4, 72, 649), (1, 106, 24, 2, 0, 650, 652, 5, 72, 653), (1, 110, 26, 2, 0, 654, 656, 6, 72, 657), (1, 123, 68, 3, 0, 666, 667, 668, 75, 669), (11, 285, 27, 6, 0, 676, 677, 678, 72, 679), (1, 136, 10, 3, 0, 680, 681, 682, 73, 683), (0, 70, 68, 3, 0, 684, 667, 668, 75, 669), (1, 139, 40, 6, 0, 685, 686, 687, 77, 688), (13, 49, 122, 3, 0, 693, 694, 695, 71, 696), (11, 133, 28, 4, 0, 697, 698, 699, 72, 700), (1, 143, 39, 2, 0, 701, 702, 703, 77, 704), (1, 150, 43, 3, 0, 705, 706, 707, 77, 708), (2, 78, 62, 1, 0, 709, 619, 620, 80, 621), (2, 81, 41, 3, 0, 710, 711, 712, 77, 713), (2, 85, 42, 3, 0, 714, 715, 716, 77, 717), (2, 89, 63, 3, 0, 718, 609, 610, 80, 611), (1, 154, 23, 3, 0, 719, 631, 632, 72, 633), (11, 137, 29, 4, 0, 720, 721, 722, 72, 723), (1, 161, 27, 6, 0, 724, 677, 678, 72, 679), (13, 53, 123, 1, 0, 726, 727, 728, 71, 729), (11, 140, 30, 2, 0, 730, 731, 732, 72, 733), (1, 168, 31, 3, 0, 734, 736, 7, 72, 737), (1, 171, 74, 2, 0, 738, 571, 572, 76, 573), (1, 174, 75, 2, 0, 739, 740, 741, 76, 742), (1, 177, 44, 4, 0, 743, 744, 745, 77, 746), (2, 93, 68, 3, 0, 748, 667, 668, 75, 669), (1, 181, 62, 1, 0, 749, 619, 620, 80, 621), (1, 185, 32, 2, 0, 750, 752, 8, 72, 753), (1, 188, 63, 3, 0, 754, 609, 610, 80, 611), (11, 144, 33, 2, 0, 755, 756, 757, 72, 758), (1, 190, 79, 2, 0, 759, 760, 761, 76, 762), (13, 57, 124, 1, 0, 763, 764, 765, 71, 766), (11, 147, 34, 2, 0, 767, 768, 769, 72, 770), (1, 193, 78, 2, 0, 771, 772, 773, 76, 774), (11, 150, 35, 2, 0, 775, 776, 777, 72, 778), (1, 196, 80, 1, 0, 779, 780, 781, 76, 782), (13, 61, 125, 5, 0, 783, 784, 785, 71, 786), (11, 153, 143, 3, 0, 787, 789, 9, 71, 790), (11, 184, 2, 2, 0, 791, 451, 452, 73, 453), (11, 289, 147, 1, 1, 792, 602, 0, 71, 603), (11, 292, 145, 1, 1, 793, 794, 0, 71, 795), (11, 224, 3, 2, 0, 797, 546, 547, 73, 548), (11, 156, 144, 3, 0, 798, 800, 10, 71, 801), (11, 246, 99, 1, 0, 802, 803, 804, 81, 805), (11, 247, 100, 2, 0, 806, 807, 808, 81, 809), (11, 249, 101, 2, 0, 811, 812, 813, 81, 814), (9, 54, 102, 2, 0, 821, 823, 11, 81, 824), (9, 60, 103, 1, 0, 826, 828, 12, 81, 829), (9, 64, 68, 3, 0, 830, 667, 668, 75, 669), (13, 66, 126, 1, 0, 831, 832, 833, 71, 834), (11, 159, 58, 1, 0, 835, 836, 837, 78, 838), (13, 70, 127, 3, 0, 839, 840, 841, 71, 842), (11, 163, 59, 3, 0, 843, 844, 845, 78, 846), (11, 167, 105, 1, 0, 848, 849, 850, 82, 851), (13, 74, 128, 1, 0, 852, 853, 854, 71, 855), (11, 169, 83, 1, 0, 856, 857, 858, 79, 859), (8, 28, 16, 1, 0, 860, 861, 862, 72, 863), (1, 45, 1, 1, 0, 864, 865, 866, 73, 867), (1, 48, 71, 1, 0, 868, 869, 870, 76, 871), (1, 49, 38, 1, 0, 872, 873, 874, 77, 875), (8, 33, 57, 2, 0, 876, 877, 878, 78, 879), (8, 39, 84, 3, 0, 880, 882, 13, 79, 883), (8, 66, 85, 1, 0, 885, 887, 14, 79, 888), (8, 91, 96, 1, 0, 889, 891, 15, 79, 892), (8, 152, 97, 1, 0, 893, 895, 16, 79, 896), (8, 95, 95, 1, 0, 897, 899, 17, 79, 900), (8, 98, 94, 1, 0, 901, 903, 18, 79, 904), (8, 101, 17, 4, 0, 905, 447, 448, 72, 449), (8, 109, 8, 5, 0, 906, 515, 516, 73, 517), (8, 70, 86, 1, 0, 907, 909, 19, 79, 910), (8, 115, 18, 3, 0, 911, 542, 543, 72, 544), (8, 119, 5, 3, 0, 912, 555, 556, 73, 557), (8, 73, 87, 1, 0, 913, 915, 20, 79, 916), (8, 123, 19, 2, 0, 917, 563, 564, 72, 565), (8, 130, 73, 2, 0, 918, 576, 577, 76, 578), (8, 76, 88, 1, 0, 919, 921, 21, 79, 922), (8, 134, 20, 2, 0, 923, 585, 586, 72, 587), (8, 137, 21, 2, 0, 924, 590, 591, 72, 592), (8, 79, 89, 1, 0, 925, 927, 22, 79, 928), (8, 140, 90, 1, 0, 929, 931, 23, 79, 932), (8, 151, 62, 1, 0, 933, 619, 620, 80, 621), (8, 156, 22, 3, 0, 934, 598, 599, 72, 600), (8, 160, 63, 3, 0, 935, 609, 610, 80, 611), (8, 143, 23, 3, 0, 936, 631, 632, 72, 633), (8, 147, 27, 6, 0, 937, 677, 678, 72, 679), (8, 82, 91, 1, 0, 938, 940, 24, 79, 941), (8, 163, 28, 4, 0, 942, 698, 699, 72, 700), (8, 167, 29, 4, 0, 943, 721, 722, 72, 723), (8, 85, 92, 1, 0, 944, 946, 25, 79, 947), (8, 170, 30, 2, 0, 948, 731, 732, 72, 733), (8, 174, 33, 2, 0, 949, 756, 757, 72, 758), (8, 88, 93, 1, 0, 950, 952, 26, 79, 953), (8, 177, 34, 2, 0, 954, 768, 769, 72, 770), (8, 180, 35, 2, 0, 955, 776, 777, 72, 778), (8, 43, 60, 3, 0, 956, 957, 958, 78, 959), (13, 78, 129, 2, 0, 960, 961, 962, 71, 963), (13, 82, 130, 3, 0, 964, 965, 966, 71, 967), (11, 188, 14, 3, 0, 968, 969, 970, 73, 971), (13, 86, 131, 2, 0, 972, 973, 974, 71, 975), (11, 198, 11, 3, 0, 977, 978, 979, 73, 980), (0, 73, 3, 2, 0, 981, 546, 547, 73, 548), (0, 79, 12, 3, 0, 983, 985, 27, 73, 986), (13, 91, 132, 4, 0, 987, 988, 989, 71, 990), (11, 202, 36, 4, 0, 991, 992, 993, 72, 994), (1, 199, 11, 3, 0, 995, 978, 979, 73, 980), (13, 96, 133, 3, 0, 996, 997, 998, 71, 999), (11, 210, 39, 2, 0, 1000, 702, 703, 77, 704), (11, 213, 47, 3, 0, 1001, 1002, 1003, 77, 1004), (13, 100, 134, 4, 0, 1005, 1006, 1007, 71, 1008), (11, 217, 41, 3, 0, 1009, 711, 712, 77, 713), (11, 220, 42, 3, 0, 1010, 715, 716, 77, 717), (13, 104, 135, 4, 0, 1011, 1012, 1013, 71, 1014), (11, 228, 45, 4, 0, 1015, 1016, 1017, 77, 1018), (2, 96, 46, 4, 1, 1019, 1020, 0, 77, 1021), (13, 108, 136, 3, 0, 1023, 1024, 1025, 71, 1026), (11, 231, 72, 2, 0, 1027, 1028, 1029, 76, 1030), (11, 232, 81, 3, 0, 1031, 1032, 1033, 76, 1034), (7, 41, 75, 2, 0, 1035, 740, 741, 76, 742), (7, 44, 78, 2, 0, 1036, 772, 773, 76, 774), (13, 112, 137, 2, 0, 1037, 1038, 1039, 71, 1040), (11, 233, 106, 2, 0, 1041, 1042, 1043, 82, 1044), (10, 31, 105, 1, 0, 1045, 849, 850, 82, 851), (10, 34, 107, 1, 0, 1046, 1048, 28, 82, 1049), (10, 54, 3, 2, 0, 1051, 546, 547, 73, 548), (10, 67, 111, 2, 0, 1053, 1055, 29, 82, 1056), (10, 87, 113, 2, 0, 1057, 1059, 30, 82, 1060), (10, 100, 11, 3, 0, 1062, 978, 979, 73, 980), (10, 90, 112, 2, 0, 1063, 1065, 31, 82, 1066), (10, 37, 108, 4, 0, 1069, 1071, 32, 82, 1072), (10, 41, 109, 1, 0, 1073, 1075, 33, 82, 1076), (10, 76, 13, 2, 0, 1077, 1078, 1079, 73, 1080), (10, 83, 110, 3, 0, 1083, 1085, 34, 82, 1086), (13, 116, 138, 2, 0, 1087, 1088, 1089, 71, 1090), (13, 120, 139, 7, 0, 1091, 1092, 1093, 71, 1094), (11, 243, 146, 1, 1, 1095, 1096, 0, 71, 1097), (13, 125, 140, 2, 0, 1098, 1099, 1100, 71, 1101), (11, 264, 141, 2, 0, 1102, 1104, 35, 71, 1105), (13, 12, 149, 1, 2, 1108, 1109, 0, 83, 1110), (13, 17, 159, 5, 0, 1261, 1262, 1263, 83, 1264), (12, 148, 151, 2, 0, 1265, 1267, 36, 83, 1268), (12, 116, 150, 3, 1, 1269, 1270, 0, 83, 1271), (12, 156, 158, 2, 0, 1274, 1276, 37, 83, 1277), (12, 159, 152, 1, 0, 1278, 1280, 38, 83, 1281), (12, 162, 153, 2, 0, 1282, 1284, 39, 83, 1285), (12, 166, 154, 1, 0, 1289, 1291, 40, 83, 1292), (12, 170, 157, 2, 0, 1293, 1295, 41, 83, 1296), (12, 140, 155, 2, 1, 1298, 1299, 0, 83, 1300), (12, 144, 156, 2, 0, 1302, 1304, 42, 83, 1305), (13, 22, 160, 3, 0, 1306, 1307, 1308, 83, 1309), (13, 27, 162, 2, 0, 1310, 1311, 1312, 83, 1313), (12, 176, 161, 2, 0, 1314, 1316, 43, 83, 1317), (13, 31, 163, 2, 0, 1318, 1319, 1320, 83, 1321), (13, 38, 164, 3, 0, 1322, 1323, 1324, 83, 1325), (13, 43, 165, 1, 0, 1328, 1329, 1330, 83, 1331), (13, 48, 173, 3, 0, 1332, 1333, 1334, 83, 1335), (12, 217, 166, 3, 0, 1336, 1338, 44, 83, 1339), (12, 221, 172, 3, 0, 1340, 1342, 45, 83, 1343), (12, 206, 171, 3, 0, 1344, 1346, 46, 83, 1347), (12, 210, 169, 2, 0, 1348, 1350, 47, 83, 1351), (12, 194, 167, 2, 0, 1352, 1354, 48, 83, 1355), (12, 200, 168, 1, 0, 1356, 1358, 49, 83, 1359), (12, 213, 170, 5, 0, 1362, 1364, 50, 83, 1365), (13, 52, 174, 3, 0, 1366, 1367, 1368, 83, 1369), (12, 224, 175, 2, 0, 1370, 1372, 51, 83, 1373), (13, 56, 178, 1, 0, 1374, 1375, 1376, 83, 1377), (12, 227, 177, 2, 0, 1378, 1380, 52, 83, 1381), (12, 230, 176, 4, 0, 1382, 1384, 53, 83, 1385), (13, 60, 179, 1, 0, 1386, 1387, 1388, 83, 1389), (13, 65, 181, 5, 0, 1390, 1391, 1392, 83, 1393), (12, 241, 180, 2, 0, 1395, 1397, 54, 83, 1398), (13, 124, 182, 7, 0, 1400, 1401, 1402, 83, 1403), (13, 69, 183, 1, 0, 1406, 1407, 1408, 83, 1409), (13, 73, 184, 3, 0, 1410, 1411, 1412, 83, 1413), (13, 77, 192, 1, 0, 1415, 1416, 1417, 83, 1418), (12, 313, 191, 1, 0, 1419, 1421, 55, 83, 1422), (12, 310, 189, 2, 0, 1423, 1425, 56, 83, 1426), (12, 273, 186, 1, 0, 1427, 1429, 57, 83, 1430), (12, 265, 185, 1, 0, 1431, 1433, 58, 83, 1434), (12, 277, 187, 1, 0, 1437, 1439, 59, 83, 1440), (12, 280, 188, 1, 0, 1441, 1443, 60, 83, 1444), (12, 283, 159, 5, 0, 1445, 1262, 1263, 83, 1264), (12, 287, 160, 3, 0, 1446, 1307, 1308, 83, 1309), (12, 291, 162, 2, 0, 1447, 1311, 1312, 83, 1313), (12, 294, 163, 2, 0, 1448, 1319, 1320, 83, 1321), (12, 296, 190, 1, 0, 1449, 1451, 61, 83, 1452), (12, 299, 174, 3, 0, 1454, 1367, 1368, 83, 1369), (12, 302, 178, 1, 0, 1455, 1375, 1376, 83, 1377), (12, 305, 179, 1, 0, 1456, 1387, 1388, 83, 1389), (13, 81, 193, 2, 0, 1457, 1458, 1459, 83, 1460), (13, 85, 194, 3, 0, 1461, 1462, 1463, 83, 1464), (13, 90, 197, 2, 0, 1465, 1466, 1467, 83, 1468), (12, 320, 196, 2, 0, 1469, 1471, 62, 83, 1472), (12, 316, 195, 3, 0, 1473, 1475, 63, 83, 1476), (13, 95, 198, 4, 0, 1477, 1478, 1479, 83, 1480), (13, 99, 199, 3, 0, 1481, 1482, 1483, 83, 1484), (13, 103, 200, 4, 0, 1485, 1486, 1487, 83, 1488), (13, 107, 201, 4, 0, 1489, 1490, 1491, 83, 1492), (13, 111, 202, 3, 0, 1493, 1494, 1495, 83, 1496), (13, 115, 209, 2, 0, 1497, 1498, 1499, 83, 1500), (12, 332, 205, 2, 0, 1501, 1503, 64, 83, 1504), (12, 324, 203, 2, 0, 1505, 1507, 65, 83, 1508), (12, 329, 204, 2, 0, 1509, 1511, 66, 83, 1512), (12, 338, 206, 1, 0, 1514, 1516, 67, 83, 1517), (12, 341, 208, 3, 0, 1518, 1520, 68, 83, 1521), (12, 335, 207, 2, 0, 1522, 1524, 69, 83, 1525), (13, 119, 210, 2, 0, 1526, 1527, 1528, 83, 1529), (13, 128, 211, 2, 0, 1530, 1531, 1532, 83, 1533), (11, 9, 15, 1, 3, 97, 98, 0, 72, 99), (1, 11, 0, 1, 3, 103, 104, 0, 73, 105), (1, 20, 70, 1, 3, 182, 183, 0, 76, 184), (1, 27, 37, 1, 3, 207, 208, 0, 77, 209), (11, 18, 51, 1, 3, 281, 282, 0, 78, 283), (11, 46, 98, 1, 3, 372, 373, 0, 81, 374), (1, 85, 147, 1, 4, 601, 602, 0, 71, 603), (1, 132, 148, 2, 4, 673, 606, 0, 71, 607)]
/-- own class, pool place; which of the rows given for whole (0 .. 11); place of the word -/
def mi_tQ : List (Nat × Nat × Nat × Nat) := [(11, 1, 11, 92), (1, 3, 11, 100), (0, 3, 11, 106), (0, 11, 0, 109), (3, 1, 11, 112), (0, 37, 3, 123), (6, 1, 11, 126), (7, 3, 11, 185), (7, 11, 0, 187), (2, 3, 11, 210), (2, 11, 0, 212), (2, 43, 3, 214), (1, 38, 3, 256), (4, 3, 11, 284), (4, 11, 0, 286), (8, 3, 11, 319), (5, 1, 11, 325), (5, 9, 0, 327), (5, 20, 3, 329), (9, 3, 11, 375), (9, 11, 3, 377), (9, 22, 0, 379), (10, 3, 11, 399), (10, 11, 0, 401), (0, 56, 1, 458), (4, 32, 2, 475), (3, 17, 9, 479), (3, 23, 10, 482), (4, 41, 1, 507), (0, 60, 2, 518), (0, 64, 5, 519), (6, 17, 9, 523), (6, 23, 10, 524), (7, 34, 1, 574), (7, 30, 2, 579), (1, 79, 1, 588), (5, 29, 2, 612), (5, 33, 5, 613), (5, 36, 4, 638), (1, 116, 7, 658), (1, 120, 4, 665), (6, 32, 4, 670), (6, 36, 5, 671), (11, 179, 1, 674), (11, 256, 4, 675), (2, 55, 2, 689), (2, 65, 1, 690), (2, 72, 4, 691), (2, 75, 5, 692), (1, 164, 2, 725), (2, 92, 7, 747), (9, 34, 2, 810), (9, 38, 1, 815), (9, 42, 5, 816), (9, 45, 8, 817), (9, 51, 4, 820), (4, 57, 9, 847), (8, 62, 1, 884), (0, 76, 4, 982), (10, 50, 1, 1050), (10, 62, 4, 1052), (10, 112, 2, 1061), (10, 104, 8, 1067), (12, 1, 11, 1111)]
def mi_tF : List (Nat × Nat × Nat × Nat × Nat) := [(0, 14, 0, 0, 135), (10, 97, 0, 0, 136), (0, 20, 0, 1, 137), (10, 73, 0, 1, 138), (1, 75, 0, 1, 139), (0, 23, 0, 2, 140), (10, 70, 0, 2, 141), (0, 26, 0, 3, 142), (10, 94, 0, 3, 143), (0, 29, 0, 4, 144), (11, 227, 0, 4, 145), (0, 32, 0, 5, 146), (10, 47, 0, 5, 147), (1, 182, 0, 5, 148), (0, 38, 0, 6, 149), (10, 58, 0, 6, 150), (1, 127, 0, 6, 151), (11, 194, 0, 6, 152), (0, 42, 0, 7, 153), (0, 45, 0, 8, 154), (0, 48, 0, 9, 155), (1, 61, 0, 9, 156), (10, 44, 0, 9, 157), (11, 267, 0, 9, 158), (7, 14, 7, 0, 188), (7, 20, 7, 1, 189), (7, 23, 7, 2, 190), (1, 74, 7, 2, 191), (11, 268, 7, 2, 192), (7, 27, 7, 3, 193), (1, 99, 7, 3, 194), (11, 269, 7, 3, 195), (2, 14, 2, 0, 215), (2, 20, 2, 1, 216), (1, 158, 2, 1, 217), (2, 23, 2, 2, 218), (1, 144, 2, 2, 219), (2, 26, 2, 3, 220), (11, 214, 2, 3, 221), (2, 29, 2, 4, 222), (1, 147, 2, 4, 223), (2, 32, 2, 5, 224), (2, 35, 2, 6, 225), (2, 38, 2, 7, 226), (2, 44, 2, 8, 227), (2, 48, 2, 9, 228), (1, 113, 2, 9, 229), (11, 272, 2, 9, 230), (2, 52, 2, 10, 231), (1, 12, 1, 0, 257), (11, 53, 1, 0, 258), (8, 105, 1, 0, 259), (1, 21, 1, 1, 260), (11, 101, 1, 1, 261), (8, 126, 1, 1, 262), (1, 28, 1, 2, 263), (11, 206, 1, 2, 264), (1, 32, 1, 3, 265), (11, 273, 1, 3, 266), (1, 41, 1, 4, 267), (4, 14, 4, 0, 287), (8, 58, 4, 0, 288), (11, 175, 4, 0, 289), (4, 20, 4, 1, 290), (4, 27, 4, 2, 291), (4, 23, 4, 3, 292), (4, 36, 4, 4, 293), (11, 168, 4, 4, 294), (4, 54, 4, 5, 295), (11, 261, 4, 5, 296), (4, 49, 4, 6, 297), (11, 172, 4, 6, 298), (5, 12, 5, 0, 330), (2, 62, 5, 0, 331), (1, 114, 5, 0, 332), (11, 280, 5, 0, 333), (5, 21, 5, 1, 334), (2, 69, 5, 1, 335), (1, 117, 5, 1, 336), (11, 282, 5, 1, 337), (5, 25, 5, 2, 338), (2, 59, 5, 2, 339), (11, 119, 5, 2, 340), (1, 89, 5, 2, 341), (8, 20, 8, 0, 349), (8, 24, 8, 1, 350), (8, 14, 8, 2, 351), (8, 47, 8, 3, 352), (8, 51, 8, 4, 353), (8, 54, 8, 5, 354), (9, 14, 9, 0, 380), (11, 253, 9, 0, 381), (9, 23, 9, 1, 382), (9, 27, 9, 2, 383), (9, 30, 9, 3, 384), (10, 14, 10, 0, 402), (11, 236, 10, 0, 403), (10, 23, 10, 1, 404), (10, 20, 10, 2, 405), (10, 27, 10, 3, 406), (11, 235, 10, 3, 407), (11, 10, 11, 0, 417), (11, 19, 11, 1, 418), (11, 28, 11, 2, 419), (11, 37, 11, 3, 420), (11, 41, 11, 4, 421), (11, 47, 11, 5, 422), (11, 60, 11, 6, 423), (11, 64, 11, 7, 424), (12, 7, 12, 0, 1112), (12, 129, 12, 1, 1113), (12, 113, 12, 2, 1114), (12, 13, 12, 3, 1115), (12, 17, 12, 4, 1116), (12, 20, 12, 5, 1117), (12, 23, 12, 6, 1118), (12, 27, 12, 7, 1119), (12, 30, 12, 8, 1120), (12, 33, 12, 9, 1121), (12, 37, 12, 10, 1122), (12, 173, 12, 11, 1123), (12, 197, 12, 12, 1124), (12, 41, 12, 13, 1125), (12, 44, 12, 14, 1126), (12, 203, 12, 15, 1127), (12, 47, 12, 16, 1128), (12, 50, 12, 17, 1129), (12, 53, 12, 18, 1130), (12, 56, 12, 19, 1131), (12, 59, 12, 20, 1132), (12, 62, 12, 21, 1133), (12, 65, 12, 22, 1134), (12, 68, 12, 23, 1135), (12, 184, 12, 24, 1136), (12, 71, 12, 25, 1137), (12, 74, 12, 26, 1138), (12, 187, 12, 27, 1139), (12, 77, 12, 28, 1140), (12, 80, 12, 29, 1141), (12, 132, 12, 30, 1142), (12, 248, 12, 31, 1143), (12, 137, 12, 32, 1144), (12, 83, 12, 33, 1145), (12, 120, 12, 34, 1146), (12, 86, 12, 35, 1147), (12, 253, 12, 36, 1148), (12, 89, 12, 37, 1149), (12, 92, 12, 38, 1150), (12, 95, 12, 39, 1151), (12, 98, 12, 40, 1152), (12, 234, 12, 41, 1153), (12, 101, 12, 42, 1154), (12, 104, 12, 43, 1155), (12, 107, 12, 44, 1156), (12, 110, 12, 45, 1157), (12, 259, 12, 46, 1158), (12, 262, 12, 47, 1159), (12, 256, 12, 48, 1160)]
def mi_tW : List (Nat × Nat × Nat × Nat × Nat × Nat) := [(13, 7, 11, 87, 88, 71), (11, 7, 1, 95, 96, 72), (1, 9, 0, 101, 102, 73), (0, 9, 3, 107, 108, 74), (0, 35, 6, 121, 122, 75), (1, 18, 7, 180, 181, 76), (7, 9, 3, 186, 108, 74), (1, 25, 2, 205, 206, 77), (2, 9, 3, 211, 108, 74), (2, 41, 6, 213, 122, 75), (1, 36, 6, 255, 122, 75), (11, 16, 4, 279, 280, 78), (4, 9, 3, 285, 108, 74), (11, 23, 8, 314, 315, 79), (8, 9, 5, 320, 321, 80), (5, 7, 3, 326, 108, 74), (5, 18, 6, 328, 122, 75), (11, 32, 5, 368, 321, 80), (11, 44, 9, 370, 371, 81), (9, 9, 6, 376, 122, 75), (9, 20, 3, 378, 108, 74), (11, 51, 10, 394, 395, 82), (10, 9, 3, 400, 108, 74), (13, 10, 12, 1106, 1107, 83)]
def mi_tKL : List (Nat × Nat × Int64 × Nat) := [(4, 30, 127, 474), (11, 237, 1000000000000000, 604), (1, 130, 10000000000000000, 672), (11, 296, 1000, 796), (9, 58, -1, 825), (11, 192, -9223372036854775808, 976), (2, 100, -9223372036854775808, 1022), (10, 110, 10, 1068), (12, 152, 9999, 1272), (12, 154, 4, 1273), (12, 123, -2, 1286), (12, 125, 2, 1287), (12, 127, 127, 1288), (12, 180, -1000000000000000, 1326), (12, 182, 1000000000000000, 1327), (12, 190, -10000000000000000, 1360), (12, 192, 10000000000000000, 1361), (12, 239, 1000, 1394), (12, 237, -1, 1399), (12, 244, 3, 1404), (12, 246, -9223372036854775808, 1405), (12, 251, 255, 1414), (12, 269, -2147483648, 1435), (12, 271, 2147483647, 1436), (12, 308, 8, 1453), (12, 327, 10, 1513), (12, 344, 5, 1534), (12, 346, 7, 1535), (12, 348, 9, 1536), (13, 32, 4294967295, 1537)]
def mi_tKI : List (Nat × Nat × Int32 × Nat) := [(4, 52, 65535, 512), (4, 53, 32768, 513), (12, 136, 65535, 1297), (12, 135, 32768, 1301)]
def mi_C (o i : Nat) : Option (Nat × Nat × Nat) := (mi_tC.find? (fun e => e.1 == o && e.2.1 == i)).map (fun e => (e.2.2.1, e.2.2.2.1, e.2.2.2.2.1))
def mi_Q (o i : Nat) : Option Nat := (mi_tQ.find? (fun e => e.1 == o && e.2.1 == i)).map (fun e => e.2.2.1)
def mi_F (o i : Nat) : Option (Nat × Nat) := (mi_tF.find? (fun e => e.1 == o && e.2.1 == i)).map (fun e => (e.2.2.1, e.2.2.2.1))
def mi_W (o i : Nat) : Option Nat := (mi_tW.find? (fun e => e.1 == o && e.2.1 == i)).map (fun e => e.2.2.1)
def mi_KL (o i : Nat) : Option Int64 := (mi_tKL.find? (fun e => e.1 == o && e.2.1 == i)).map (fun e => e.2.2.1)
def mi_KI (o i : Nat) : Option Int32 := (mi_tKI.find? (fun e => e.1 == o && e.2.1 == i)).map (fun e => e.2.2.1)
def mi_let : Nat × Nat := (10, 79)
def mi_law : Nat := 212
def mi_ws : List Cond := lw_tbl.filter goodWord
theorem mi_ws_tbl {w : Cond} (h : w ∈ mi_ws) : w ∈ lw_tbl := (List.mem_filter.mp h).1
theorem mi_ws_good {w : Cond} (h : w ∈ mi_ws) : (w.onTables && w.keeps) = true ∨ ∃ ty, w = .arrayClass ty := good_of_word (List.mem_filter.mp h).2
theorem mi_ws_of {w : Cond} (p : Nat) (h : lw_tbl[p]? = some w) (g : goodWord w = true) : w ∈ mi_ws := List.mem_filter.mpr ⟨List.mem_of_getElem? h, g⟩
def mi_PC : Nat × Nat × Nat × Nat × Nat × Nat × Nat × Nat × Nat × Nat → Prop := fun e => match e with
  | (o, i, z, n, kd, p1, p2, p3, p4, p5) =>
    (kd < 3 → lw_tbl[p1]? = some (Cond.methodLink (mi_RX o) i (mi_N z))) ∧ (¬ kd < 3 → lw_tbl[p1]? = some (Cond.methodLinkNest (mi_RX o) i (mi_N z) "LedgerTwice"))
    ∧ (kd = 1 ∨ kd = 4 → lw_tbl[p2]? = some (Cond.static (mi_N z))) ∧ (¬ (kd = 1 ∨ kd = 4) → lw_tbl[p2]? = some (Cond.instanceMethod (mi_N z)))
    ∧ (kd = 0 → lw_tbl[p3]? = some (Cond.selects (mi_RX (mi_O z)) (mi_N z) (mi_N z)))
    ∧ lw_tbl[p4]? = some (Cond.initialized (mi_RX (mi_O z)))
    ∧ lw_tbl[p5]? = some (Cond.code (mi_N z) (mi_B z) (mi_L z) (mi_R z))
    ∧ (mi_N z).cls = mi_RX (mi_O z)
    ∧ (parseMethodDescriptor (mi_N z).desc).map (fun d => d.parameters.length) = some (if kd = 1 ∨ kd = 4 then n else n - 1)
    ∧ (mi_L z).ble 40 = true ∧ (1 ≤ n ∨ kd = 1 ∨ kd = 4) ∧ kd < 5
    ∧ (kd = 2 ∨ kd = 3 → (mi_N z).name = "<init>" ∧ mi_R z = none)
set_option maxRecDepth 100000 in
theorem mi_pc0 : mi_PC (13, 9, 114, 1, 2, 89, 90, 0, 71, 91) := ⟨(fun _ => rfl), (fun h => absurd h (by decide)), (fun h => absurd h (by decide)), (fun _ => rfl), (fun h => absurd h (by decide)), rfl, rfl, rfl, (by decide +kernel), rfl, (by decide), (by decide), (fun _ => ⟨rfl, rfl⟩)⟩
set_option maxRecDepth 100000 in
theorem mi_pc1 : mi_PC (11, 25, 82, 3, 2, 316, 317, 0, 79, 318) := ⟨(fun _ => rfl), (fun h => absurd h (by decide)), (fun h => absurd h (by decide)), (fun _ => rfl), (fun h => absurd h (by decide)), rfl, rfl, rfl, (by decide +kernel), rfl, (by decide), (by decide), (fun _ => ⟨rfl, rfl⟩)⟩
set_option maxRecDepth 100000 in
theorem mi_pc2 : mi_PC (8, 11, 61, 2, 2, 322, 323, 0, 80, 324) := ⟨(fun _ => rfl), (fun h => absurd h (by decide)), (fun h => absurd h (by decide)), (fun _ => rfl), (fun h => absurd h (by decide)), rfl, rfl, rfl, (by decide +kernel), rfl, (by decide), (by decide), (fun _ => ⟨rfl, rfl⟩)⟩
set_option maxRecDepth 100000 in
theorem mi_pc3 : mi_PC (11, 34, 61, 2, 2, 369, 323, 0, 80, 324) := ⟨(fun _ => rfl), (fun h => absurd h (by decide)), (fun h => absurd h (by decide)), (fun _ => rfl), (fun h => absurd h (by decide)), rfl, rfl, rfl, (by decide +kernel), rfl, (by decide), (by decide), (fun _ => ⟨rfl, rfl⟩)⟩
set_option maxRecDepth 100000 in
theorem mi_pc4 : mi_PC (11, 57, 104, 2, 2, 396, 397, 0, 82, 398) := ⟨(fun _ => rfl), (fun h => absurd h (by decide)), (fun h => absurd h (by decide)), (fun _ => rfl), (fun h => absurd h (by decide)), rfl, rfl, rfl, (by decide +kernel), rfl, (by decide), (by decide), (fun _ => ⟨rfl, rfl⟩)⟩
set_option maxRecDepth 100000 in
theorem mi_pc5 : mi_PC (13, 13, 115, 5, 0, 442, 443, 444, 71, 445) := ⟨(fun _ => rfl), (fun h => absurd h (by decide)), (fun h => absurd h (by decide)), (fun _ => rfl), (fun _ => rfl), rfl, rfl, rfl, (by decide +kernel), rfl, (by decide), (by decide), (fun h => absurd h (by decide))⟩
set_option maxRecDepth 100000 in
theorem mi_pc6 : mi_PC (11, 68, 17, 4, 0, 446, 447, 448, 72, 449) := ⟨(fun _ => rfl), (fun h => absurd h (by decide)), (fun h => absurd h (by decide)), (fun _ => rfl), (fun _ => rfl), rfl, rfl, rfl, (by decide +kernel), rfl, (by decide), (by decide), (fun h => absurd h (by decide))⟩
set_option maxRecDepth 100000 in
theorem mi_pc7 : mi_PC (1, 50, 2, 2, 0, 450, 451, 452, 73, 453) := ⟨(fun _ => rfl), (fun h => absurd h (by decide)), (fun h => absurd h (by decide)), (fun _ => rfl), (fun _ => rfl), rfl, rfl, rfl, (by decide +kernel), rfl, (by decide), (by decide), (fun h => absurd h (by decide))⟩
set_option maxRecDepth 100000 in
theorem mi_pc8 : mi_PC (1, 54, 6, 3, 0, 454, 455, 456, 73, 457) := ⟨(fun _ => rfl), (fun h => absurd h (by decide)), (fun h => absurd h (by decide)), (fun _ => rfl), (fun _ => rfl), rfl, rfl, rfl, (by decide +kernel), rfl, (by decide), (by decide), (fun h => absurd h (by decide))⟩
set_option maxRecDepth 100000 in
theorem mi_pc9 : mi_PC (1, 58, 7, 2, 0, 462, 463, 464, 73, 465) := ⟨(fun _ => rfl), (fun h => absurd h (by decide)), (fun h => absurd h (by decide)), (fun _ => rfl), (fun _ => rfl), rfl, rfl, rfl, (by decide +kernel), rfl, (by decide), (by decide), (fun h => absurd h (by decide))⟩
set_option maxRecDepth 100000 in
theorem mi_pc10 : mi_PC (11, 72, 52, 2, 0, 466, 467, 468, 78, 469) := ⟨(fun _ => rfl), (fun h => absurd h (by decide)), (fun h => absurd h (by decide)), (fun _ => rfl), (fun _ => rfl), rfl, rfl, rfl, (by decide +kernel), rfl, (by decide), (by decide), (fun h => absurd h (by decide))⟩
set_option maxRecDepth 100000 in
theorem mi_pc11 : mi_PC (11, 75, 53, 2, 0, 470, 471, 472, 78, 473) := ⟨(fun _ => rfl), (fun h => absurd h (by decide)), (fun h => absurd h (by decide)), (fun _ => rfl), (fun _ => rfl), rfl, rfl, rfl, (by decide +kernel), rfl, (by decide), (by decide), (fun h => absurd h (by decide))⟩
set_option maxRecDepth 100000 in
theorem mi_pc12 : mi_PC (11, 79, 54, 1, 0, 499, 500, 501, 78, 502) := ⟨(fun _ => rfl), (fun h => absurd h (by decide)), (fun h => absurd h (by decide)), (fun _ => rfl), (fun _ => rfl), rfl, rfl, rfl, (by decide +kernel), rfl, (by decide), (by decide), (fun h => absurd h (by decide))⟩
set_option maxRecDepth 100000 in
theorem mi_pc13 : mi_PC (4, 39, 55, 2, 0, 503, 505, 0, 78, 506) := ⟨(fun _ => rfl), (fun h => absurd h (by decide)), (fun h => absurd h (by decide)), (fun _ => rfl), (fun _ => rfl), rfl, rfl, rfl, (by decide +kernel), rfl, (by decide), (by decide), (fun h => absurd h (by decide))⟩
set_option maxRecDepth 100000 in
theorem mi_pc14 : mi_PC (4, 45, 56, 3, 0, 508, 510, 1, 78, 511) := ⟨(fun _ => rfl), (fun h => absurd h (by decide)), (fun h => absurd h (by decide)), (fun _ => rfl), (fun _ => rfl), rfl, rfl, rfl, (by decide +kernel), rfl, (by decide), (by decide), (fun h => absurd h (by decide))⟩
set_option maxRecDepth 100000 in
theorem mi_pc15 : mi_PC (11, 83, 8, 5, 0, 514, 515, 516, 73, 517) := ⟨(fun _ => rfl), (fun h => absurd h (by decide)), (fun h => absurd h (by decide)), (fun _ => rfl), (fun _ => rfl), rfl, rfl, rfl, (by decide +kernel), rfl, (by decide), (by decide), (fun h => absurd h (by decide))⟩
set_option maxRecDepth 100000 in
theorem mi_pc16 : mi_PC (0, 67, 9, 2, 0, 533, 535, 2, 73, 536) := ⟨(fun _ => rfl), (fun h => absurd h (by decide)), (fun h => absurd h (by decide)), (fun _ => rfl), (fun _ => rfl), rfl, rfl, rfl, (by decide +kernel), rfl, (by decide), (by decide), (fun h => absurd h (by decide))⟩
set_option maxRecDepth 100000 in
theorem mi_pc17 : mi_PC (13, 18, 116, 3, 0, 537, 538, 539, 71, 540) := ⟨(fun _ => rfl), (fun h => absurd h (by decide)), (fun h => absurd h (by decide)), (fun _ => rfl), (fun _ => rfl), rfl, rfl, rfl, (by decide +kernel), rfl, (by decide), (by decide), (fun h => absurd h (by decide))⟩
set_option maxRecDepth 100000 in
theorem mi_pc18 : mi_PC (11, 89, 18, 3, 0, 541, 542, 543, 72, 544) := ⟨(fun _ => rfl), (fun h => absurd h (by decide)), (fun h => absurd h (by decide)), (fun _ => rfl), (fun _ => rfl), rfl, rfl, rfl, (by decide +kernel), rfl, (by decide), (by decide), (fun h => absurd h (by decide))⟩
set_option maxRecDepth 100000 in
theorem mi_pc19 : mi_PC (1, 64, 3, 2, 0, 545, 546, 547, 73, 548) := ⟨(fun _ => rfl), (fun h => absurd h (by decide)), (fun h => absurd h (by decide)), (fun _ => rfl), (fun _ => rfl), rfl, rfl, rfl, (by decide +kernel), rfl, (by decide), (by decide), (fun h => absurd h (by decide))⟩
set_option maxRecDepth 100000 in
theorem mi_pc20 : mi_PC (0, 52, 2, 2, 0, 549, 451, 452, 73, 453) := ⟨(fun _ => rfl), (fun h => absurd h (by decide)), (fun h => absurd h (by decide)), (fun _ => rfl), (fun _ => rfl), rfl, rfl, rfl, (by decide +kernel), rfl, (by decide), (by decide), (fun h => absurd h (by decide))⟩
set_option maxRecDepth 100000 in
theorem mi_pc21 : mi_PC (1, 67, 4, 2, 0, 550, 551, 552, 73, 553) := ⟨(fun _ => rfl), (fun h => absurd h (by decide)), (fun h => absurd h (by decide)), (fun _ => rfl), (fun _ => rfl), rfl, rfl, rfl, (by decide +kernel), rfl, (by decide), (by decide), (fun h => absurd h (by decide))⟩
set_option maxRecDepth 100000 in
theorem mi_pc22 : mi_PC (11, 93, 5, 3, 0, 554, 555, 556, 73, 557) := ⟨(fun _ => rfl), (fun h => absurd h (by decide)), (fun h => absurd h (by decide)), (fun _ => rfl), (fun _ => rfl), rfl, rfl, rfl, (by decide +kernel), rfl, (by decide), (by decide), (fun h => absurd h (by decide))⟩
set_option maxRecDepth 100000 in
theorem mi_pc23 : mi_PC (13, 23, 117, 2, 0, 558, 559, 560, 71, 561) := ⟨(fun _ => rfl), (fun h => absurd h (by decide)), (fun h => absurd h (by decide)), (fun _ => rfl), (fun _ => rfl), rfl, rfl, rfl, (by decide +kernel), rfl, (by decide), (by decide), (fun h => absurd h (by decide))⟩
set_option maxRecDepth 100000 in
theorem mi_pc24 : mi_PC (11, 97, 19, 2, 0, 562, 563, 564, 72, 565) := ⟨(fun _ => rfl), (fun h => absurd h (by decide)), (fun h => absurd h (by decide)), (fun _ => rfl), (fun _ => rfl), rfl, rfl, rfl, (by decide +kernel), rfl, (by decide), (by decide), (fun h => absurd h (by decide))⟩
set_option maxRecDepth 100000 in
theorem mi_pc25 : mi_PC (1, 70, 76, 1, 0, 566, 567, 568, 76, 569) := ⟨(fun _ => rfl), (fun h => absurd h (by decide)), (fun h => absurd h (by decide)), (fun _ => rfl), (fun _ => rfl), rfl, rfl, rfl, (by decide +kernel), rfl, (by decide), (by decide), (fun h => absurd h (by decide))⟩
set_option maxRecDepth 100000 in
theorem mi_pc26 : mi_PC (7, 38, 74, 2, 0, 570, 571, 572, 76, 573) := ⟨(fun _ => rfl), (fun h => absurd h (by decide)), (fun h => absurd h (by decide)), (fun _ => rfl), (fun _ => rfl), rfl, rfl, rfl, (by decide +kernel), rfl, (by decide), (by decide), (fun h => absurd h (by decide))⟩
set_option maxRecDepth 100000 in
theorem mi_pc27 : mi_PC (11, 105, 73, 2, 0, 575, 576, 577, 76, 578) := ⟨(fun _ => rfl), (fun h => absurd h (by decide)), (fun h => absurd h (by decide)), (fun _ => rfl), (fun _ => rfl), rfl, rfl, rfl, (by decide +kernel), rfl, (by decide), (by decide), (fun h => absurd h (by decide))⟩
set_option maxRecDepth 100000 in
theorem mi_pc28 : mi_PC (13, 28, 118, 2, 0, 580, 581, 582, 71, 583) := ⟨(fun _ => rfl), (fun h => absurd h (by decide)), (fun h => absurd h (by decide)), (fun _ => rfl), (fun _ => rfl), rfl, rfl, rfl, (by decide +kernel), rfl, (by decide), (by decide), (fun h => absurd h (by decide))⟩
set_option maxRecDepth 100000 in
theorem mi_pc29 : mi_PC (11, 109, 20, 2, 0, 584, 585, 586, 72, 587) := ⟨(fun _ => rfl), (fun h => absurd h (by decide)), (fun h => absurd h (by decide)), (fun _ => rfl), (fun _ => rfl), rfl, rfl, rfl, (by decide +kernel), rfl, (by decide), (by decide), (fun h => absurd h (by decide))⟩
set_option maxRecDepth 100000 in
theorem mi_pc30 : mi_PC (11, 112, 21, 2, 0, 589, 590, 591, 72, 592) := ⟨(fun _ => rfl), (fun h => absurd h (by decide)), (fun h => absurd h (by decide)), (fun _ => rfl), (fun _ => rfl), rfl, rfl, rfl, (by decide +kernel), rfl, (by decide), (by decide), (fun h => absurd h (by decide))⟩
set_option maxRecDepth 100000 in
theorem mi_pc31 : mi_PC (13, 34, 119, 3, 0, 593, 594, 595, 71, 596) := ⟨(fun _ => rfl), (fun h => absurd h (by decide)), (fun h => absurd h (by decide)), (fun _ => rfl), (fun _ => rfl), rfl, rfl, rfl, (by decide +kernel), rfl, (by decide), (by decide), (fun h => absurd h (by decide))⟩
set_option maxRecDepth 100000 in
theorem mi_pc32 : mi_PC (11, 115, 22, 3, 0, 597, 598, 599, 72, 600) := ⟨(fun _ => rfl), (fun h => absurd h (by decide)), (fun h => absurd h (by decide)), (fun _ => rfl), (fun _ => rfl), rfl, rfl, rfl, (by decide +kernel), rfl, (by decide), (by decide), (fun h => absurd h (by decide))⟩
set_option maxRecDepth 100000 in
theorem mi_pc33 : mi_PC (11, 239, 148, 2, 1, 605, 606, 0, 71, 607) := ⟨(fun _ => rfl), (fun h => absurd h (by decide)), (fun _ => rfl), (fun h => absurd h (by decide)), (fun h => absurd h (by decide)), rfl, rfl, rfl, (by decide +kernel), rfl, (by decide), (by decide), (fun h => absurd h (by decide))⟩
set_option maxRecDepth 100000 in
theorem mi_pc34 : mi_PC (11, 123, 63, 3, 0, 608, 609, 610, 80, 611) := ⟨(fun _ => rfl), (fun h => absurd h (by decide)), (fun h => absurd h (by decide)), (fun _ => rfl), (fun _ => rfl), rfl, rfl, rfl, (by decide +kernel), rfl, (by decide), (by decide), (fun h => absurd h (by decide))⟩
set_option maxRecDepth 100000 in
theorem mi_pc35 : mi_PC (13, 39, 120, 1, 0, 614, 615, 616, 71, 617) := ⟨(fun _ => rfl), (fun h => absurd h (by decide)), (fun h => absurd h (by decide)), (fun _ => rfl), (fun _ => rfl), rfl, rfl, rfl, (by decide +kernel), rfl, (by decide), (by decide), (fun h => absurd h (by decide))⟩
set_option maxRecDepth 100000 in
theorem mi_pc36 : mi_PC (11, 126, 62, 1, 0, 618, 619, 620, 80, 621) := ⟨(fun _ => rfl), (fun h => absurd h (by decide)), (fun h => absurd h (by decide)), (fun _ => rfl), (fun _ => rfl), rfl, rfl, rfl, (by decide +kernel), rfl, (by decide), (by decide), (fun h => absurd h (by decide))⟩
set_option maxRecDepth 100000 in
theorem mi_pc37 : mi_PC (13, 44, 121, 3, 0, 622, 623, 624, 71, 625) := ⟨(fun _ => rfl), (fun h => absurd h (by decide)), (fun h => absurd h (by decide)), (fun _ => rfl), (fun _ => rfl), rfl, rfl, rfl, (by decide +kernel), rfl, (by decide), (by decide), (fun h => absurd h (by decide))⟩
set_option maxRecDepth 100000 in
theorem mi_pc38 : mi_PC (11, 129, 142, 4, 0, 626, 628, 3, 71, 629) := ⟨(fun _ => rfl), (fun h => absurd h (by decide)), (fun h => absurd h (by decide)), (fun _ => rfl), (fun _ => rfl), rfl, rfl, rfl, (by decide +kernel), rfl, (by decide), (by decide), (fun h => absurd h (by decide))⟩
set_option maxRecDepth 100000 in
theorem mi_pc39 : mi_PC (11, 276, 23, 3, 0, 630, 631, 632, 72, 633) := ⟨(fun _ => rfl), (fun h => absurd h (by decide)), (fun h => absurd h (by decide)), (fun _ => rfl), (fun _ => rfl), rfl, rfl, rfl, (by decide +kernel), rfl, (by decide), (by decide), (fun h => absurd h (by decide))⟩
set_option maxRecDepth 100000 in
theorem mi_pc40 : mi_PC (1, 92, 64, 1, 0, 634, 635, 636, 80, 637) := ⟨(fun _ => rfl), (fun h => absurd h (by decide)), (fun h => absurd h (by decide)), (fun _ => rfl), (fun _ => rfl), rfl, rfl, rfl, (by decide +kernel), rfl, (by decide), (by decide), (fun h => absurd h (by decide))⟩
set_option maxRecDepth 100000 in
theorem mi_pc41 : mi_PC (1, 96, 77, 2, 0, 642, 643, 644, 76, 645) := ⟨(fun _ => rfl), (fun h => absurd h (by decide)), (fun h => absurd h (by decide)), (fun _ => rfl), (fun _ => rfl), rfl, rfl, rfl, (by decide +kernel), rfl, (by decide), (by decide), (fun h => absurd h (by decide))⟩
set_option maxRecDepth 100000 in
theorem mi_pc42 : mi_PC (1, 102, 25, 2, 0, 646, 648, 4, 72, 649) := ⟨(fun _ => rfl), (fun h => absurd h (by decide)), (fun h => absurd h (by decide)), (fun _ => rfl), (fun _ => rfl), rfl, rfl, rfl, (by decide +kernel), rfl, (by decide), (by decide), (fun h => absurd h (by decide))⟩
set_option maxRecDepth 100000 in
theorem mi_pc43 : mi_PC (1, 106, 24, 2, 0, 650, 652, 5, 72, 653) := ⟨(fun _ => rfl), (fun h => absurd h (by decide)), (fun h => absurd h (by decide)), (fun _ => rfl), (fun _ => rfl), rfl, rfl, rfl, (by decide +kernel), rfl, (by decide), (by decide), (fun h => absurd h (by decide))⟩
set_option maxRecDepth 100000 in
theorem mi_pc44 : mi_PC (1, 110, 26, 2, 0, 654, 656, 6, 72, 657) := ⟨(fun _ => rfl), (fun h => absurd h (by decide)), (fun h => absurd h (by decide)), (fun _ => rfl), (fun _ => rfl), rfl, rfl, rfl, (by decide +kernel), rfl, (by decide), (by decide), (fun h => absurd h (by decide))⟩
set_option maxRecDepth 100000 in
theorem mi_pc45 : mi_PC (1, 123, 68, 3, 0, 666, 667, 668, 75, 669) := ⟨(fun _ => rfl), (fun h => absurd h (by decide)), (fun h => absurd h (by decide)), (fun _ => rfl), (fun _ => rfl), rfl, rfl, rfl, (by decide +kernel), rfl, (by decide), (by decide), (fun h => absurd h (by decide))⟩
set_option maxRecDepth 100000 in
theorem mi_pc46 : mi_PC (11, 285, 27, 6, 0, 676, 677, 678, 72, 679) := ⟨(fun _ => rfl), (fun h => absurd h (by decide)), (fun h => absurd h (by decide)), (fun _ => rfl), (fun _ => rfl), rfl, rfl, rfl, (by decide +kernel), rfl, (by decide), (by decide), (fun h => absurd h (by decide))⟩
set_option maxRecDepth 100000 in
theorem mi_pc47 : mi_PC (1, 136, 10, 3, 0, 680, 681, 682, 73, 683) := ⟨(fun _ => rfl), (fun h => absurd h (by decide)), (fun h => absurd h (by decide)), (fun _ => rfl), (fun _ => rfl), rfl, rfl, rfl, (by decide +kernel), rfl, (by decide), (by decide), (fun h => absurd h (by decide))⟩
set_option maxRecDepth 100000 in
theorem mi_pc48 : mi_PC (0, 70, 68, 3, 0, 684, 667, 668, 75, 669) := ⟨(fun _ => rfl), (fun h => absurd h (by decide)), (fun h => absurd h (by decide)), (fun _ => rfl), (fun _ => rfl), rfl, rfl, rfl, (by decide +kernel), rfl, (by decide), (by decide), (fun h => absurd h (by decide))⟩
set_option maxRecDepth 100000 in
theorem mi_pc49 : mi_PC (1, 139, 40, 6, 0, 685, 686, 687, 77, 688) := ⟨(fun _ => rfl), (fun h => absurd h (by decide)), (fun h => absurd h (by decide)), (fun _ => rfl), (fun _ => rfl), rfl, rfl, rfl, (by decide +kernel), rfl, (by decide), (by decide), (fun h => absurd h (by decide))⟩
set_option maxRecDepth 100000 in
theorem mi_pc50 : mi_PC (13, 49, 122, 3, 0, 693, 694, 695, 71, 696) := ⟨(fun _ => rfl), (fun h => absurd h (by decide)), (fun h => absurd h (by decide)), (fun _ => rfl), (fun _ => rfl), rfl, rfl, rfl, (by decide +kernel), rfl, (by decide), (by decide), (fun h => absurd h (by decide))⟩
set_option maxRecDepth 100000 in
theorem mi_pc51 : mi_PC (11, 133, 28, 4, 0, 697, 698, 699, 72, 700) := ⟨(fun _ => rfl), (fun h => absurd h (by decide)), (fun h => absurd h (by decide)), (fun _ => rfl), (fun _ => rfl), rfl, rfl, rfl, (by decide +kernel), rfl, (by decide), (by decide), (fun h => absurd h (by decide))⟩
set_option maxRecDepth 100000 in
theorem mi_pc52 : mi_PC (1, 143, 39, 2, 0, 701, 702, 703, 77, 704) := ⟨(fun _ => rfl), (fun h => absurd h (by decide)), (fun h => absurd h (by decide)), (fun _ => rfl), (fun _ => rfl), rfl, rfl, rfl, (by decide +kernel), rfl, (by decide), (by decide), (fun h => absurd h (by decide))⟩
set_option maxRecDepth 100000 in
theorem mi_pc53 : mi_PC (1, 150, 43, 3, 0, 705, 706, 707, 77, 708) := ⟨(fun _ => rfl), (fun h => absurd h (by decide)), (fun h => absurd h (by decide)), (fun _ => rfl), (fun _ => rfl), rfl, rfl, rfl, (by decide +kernel), rfl, (by decide), (by decide), (fun h => absurd h (by decide))⟩
set_option maxRecDepth 100000 in
theorem mi_pc54 : mi_PC (2, 78, 62, 1, 0, 709, 619, 620, 80, 621) := ⟨(fun _ => rfl), (fun h => absurd h (by decide)), (fun h => absurd h (by decide)), (fun _ => rfl), (fun _ => rfl), rfl, rfl, rfl, (by decide +kernel), rfl, (by decide), (by decide), (fun h => absurd h (by decide))⟩
set_option maxRecDepth 100000 in
theorem mi_pc55 : mi_PC (2, 81, 41, 3, 0, 710, 711, 712, 77, 713) := ⟨(fun _ => rfl), (fun h => absurd h (by decide)), (fun h => absurd h (by decide)), (fun _ => rfl), (fun _ => rfl), rfl, rfl, rfl, (by decide +kernel), rfl, (by decide), (by decide), (fun h => absurd h (by decide))⟩
set_option maxRecDepth 100000 in
theorem mi_pc56 : mi_PC (2, 85, 42, 3, 0, 714, 715, 716, 77, 717) := ⟨(fun _ => rfl), (fun h => absurd h (by decide)), (fun h => absurd h (by decide)), (fun _ => rfl), (fun _ => rfl), rfl, rfl, rfl, (by decide +kernel), rfl, (by decide), (by decide), (fun h => absurd h (by decide))⟩
set_option maxRecDepth 100000 in
theorem mi_pc57 : mi_PC (2, 89, 63, 3, 0, 718, 609, 610, 80, 611) := ⟨(fun _ => rfl), (fun h => absurd h (by decide)), (fun h => absurd h (by decide)), (fun _ => rfl), (fun _ => rfl), rfl, rfl, rfl, (by decide +kernel), rfl, (by decide), (by decide), (fun h => absurd h (by decide))⟩
set_option maxRecDepth 100000 in
theorem mi_pc58 : mi_PC (1, 154, 23, 3, 0, 719, 631, 632, 72, 633) := ⟨(fun _ => rfl), (fun h => absurd h (by decide)), (fun h => absurd h (by decide)), (fun _ => rfl), (fun _ => rfl), rfl, rfl, rfl, (by decide +kernel), rfl, (by decide), (by decide), (fun h => absurd h (by decide))⟩
set_option maxRecDepth 100000 in
theorem mi_pc59 : mi_PC (11, 137, 29, 4, 0, 720, 721, 722, 72, 723) := ⟨(fun _ => rfl), (fun h => absurd h (by decide)), (fun h => absurd h (by decide)), (fun _ => rfl), (fun _ => rfl), rfl, rfl, rfl, (by decide +kernel), rfl, (by decide), (by decide), (fun h => absurd h (by decide))⟩
set_option maxRecDepth 100000 in
theorem mi_pc60 : mi_PC (1, 161, 27, 6, 0, 724, 677, 678, 72, 679) := ⟨(fun _ => rfl), (fun h => absurd h (by decide)), (fun h => absurd h (by decide)), (fun _ => rfl), (fun _ => rfl), rfl, rfl, rfl, (by decide +kernel), rfl, (by decide), (by decide), (fun h => absurd h (by decide))⟩
set_option maxRecDepth 100000 in
theorem mi_pc61 : mi_PC (13, 53, 123, 1, 0, 726, 727, 728, 71, 729) := ⟨(fun _ => rfl), (fun h => absurd h (by decide)), (fun h => absurd h (by decide)), (fun _ => rfl), (fun _ => rfl), rfl, rfl, rfl, (by decide +kernel), rfl, (by decide), (by decide), (fun h => absurd h (by decide))⟩
set_option maxRecDepth 100000 in
theorem mi_pc62 : mi_PC (11, 140, 30, 2, 0, 730, 731, 732, 72, 733) := ⟨(fun _ => rfl), (fun h => absurd h (by decide)), (fun h => absurd h (by decide)), (fun _ => rfl), (fun _ => rfl), rfl, rfl, rfl, (by decide +kernel), rfl, (by decide), (by decide), (fun h => absurd h (by decide))⟩
set_option maxRecDepth 100000 in
theorem mi_pc63 : mi_PC (1, 168, 31, 3, 0, 734, 736, 7, 72, 737) := ⟨(fun _ => rfl), (fun h => absurd h (by decide)), (fun h => absurd h (by decide)), (fun _ => rfl), (fun _ => rfl), rfl, rfl, rfl, (by decide +kernel), rfl, (by decide), (by decide), (fun h => absurd h (by decide))⟩
set_option maxRecDepth 100000 in
theorem mi_pc64 : mi_PC (1, 171, 74, 2, 0, 738, 571, 572, 76, 573) := ⟨(fun _ => rfl), (fun h => absurd h (by decide)), (fun h => absurd h (by decide)), (fun _ => rfl), (fun _ => rfl), rfl, rfl, rfl, (by decide +kernel), rfl, (by decide), (by decide), (fun h => absurd h (by decide))⟩
set_option maxRecDepth 100000 in
theorem mi_pc65 : mi_PC (1, 174, 75, 2, 0, 739, 740, 741, 76, 742) := ⟨(fun _ => rfl), (fun h => absurd h (by decide)), (fun h => absurd h (by decide)), (fun _ => rfl), (fun _ => rfl), rfl, rfl, rfl, (by decide +kernel), rfl, (by decide), (by decide), (fun h => absurd h (by decide))⟩
set_option maxRecDepth 100000 in
theorem mi_pc66 : mi_PC (1, 177, 44, 4, 0, 743, 744, 745, 77, 746) := ⟨(fun _ => rfl), (fun h => absurd h (by decide)), (fun h => absurd h (by decide)), (fun _ => rfl), (fun _ => rfl), rfl, rfl, rfl, (by decide +kernel), rfl, (by decide), (by decide), (fun h => absurd h (by decide))⟩
set_option maxRecDepth 100000 in
theorem mi_pc67 : mi_PC (2, 93, 68, 3, 0, 748, 667, 668, 75, 669) := ⟨(fun _ => rfl), (fun h => absurd h (by decide)), (fun h => absurd h (by decide)), (fun _ => rfl), (fun _ => rfl), rfl, rfl, rfl, (by decide +kernel), rfl, (by decide), (by decide), (fun h => absurd h (by decide))⟩
set_option maxRecDepth 100000 in
theorem mi_pc68 : mi_PC (1, 181, 62, 1, 0, 749, 619, 620, 80, 621) := ⟨(fun _ => rfl), (fun h => absurd h (by decide)), (fun h => absurd h (by decide)), (fun _ => rfl), (fun _ => rfl), rfl, rfl, rfl, (by decide +kernel), rfl, (by decide), (by decide), (fun h => absurd h (by decide))⟩
set_option maxRecDepth 100000 in
theorem mi_pc69 : mi_PC (1, 185, 32, 2, 0, 750, 752, 8, 72, 753) := ⟨(fun _ => rfl), (fun h => absurd h (by decide)), (fun h => absurd h (by decide)), (fun _ => rfl), (fun _ => rfl), rfl, rfl, rfl, (by decide +kernel), rfl, (by decide), (by decide), (fun h => absurd h (by decide))⟩
set_option maxRecDepth 100000 in
theorem mi_pc70 : mi_PC (1, 188, 63, 3, 0, 754, 609, 610, 80, 611) := ⟨(fun _ => rfl), (fun h => absurd h (by decide)), (fun h => absurd h (by decide)), (fun _ => rfl), (fun _ => rfl), rfl, rfl, rfl, (by decide +kernel), rfl, (by decide), (by decide), (fun h => absurd h (by decide))⟩
set_option maxRecDepth 100000 in
theorem mi_pc71 : mi_PC (11, 144, 33, 2, 0, 755, 756, 757, 72, 758) := ⟨(fun _ => rfl), (fun h => absurd h (by decide)), (fun h => absurd h (by decide)), (fun _ => rfl), (fun _ => rfl), rfl, rfl, rfl, (by decide +kernel), rfl, (by decide), (by decide), (fun h => absurd h (by decide))⟩
set_option maxRecDepth 100000 in
theorem mi_pc72 : mi_PC (1, 190, 79, 2, 0, 759, 760, 761, 76, 762) := ⟨(fun _ => rfl), (fun h => absurd h (by decide)), (fun h => absurd h (by decide)), (fun _ => rfl), (fun _ => rfl), rfl, rfl, rfl, (by decide +kernel), rfl, (by decide), (by decide), (fun h => absurd h (by decide))⟩
set_option maxRecDepth 100000 in
theorem mi_pc73 : mi_PC (13, 57, 124, 1, 0, 763, 764, 765, 71, 766) := ⟨(fun _ => rfl), (fun h => absurd h (by decide)), (fun h => absurd h (by decide)), (fun _ => rfl), (fun _ => rfl), rfl, rfl, rfl, (by decide +kernel), rfl, (by decide), (by decide), (fun h => absurd h (by decide))⟩
set_option maxRecDepth 100000 in
theorem mi_pc74 : mi_PC (11, 147, 34, 2, 0, 767, 768, 769, 72, 770) := ⟨(fun _ => rfl), (fun h => absurd h (by decide)), (fun h => absurd h (by decide)), (fun _ => rfl), (fun _ => rfl), rfl, rfl, rfl, (by decide +kernel), rfl, (by decide), (by decide), (fun h => absurd h (by decide))⟩
set_option maxRecDepth 100000 in
theorem mi_pc75 : mi_PC (1, 193, 78, 2, 0, 771, 772, 773, 76, 774) := ⟨(fun _ => rfl), (fun h => absurd h (by decide)), (fun h => absurd h (by decide)), (fun _ => rfl), (fun _ => rfl), rfl, rfl, rfl, (by decide +kernel), rfl, (by decide), (by decide), (fun h => absurd h (by decide))⟩
set_option maxRecDepth 100000 in
theorem mi_pc76 : mi_PC (11, 150, 35, 2, 0, 775, 776, 777, 72, 778) := ⟨(fun _ => rfl), (fun h => absurd h (by decide)), (fun h => absurd h (by decide)), (fun _ => rfl), (fun _ => rfl), rfl, rfl, rfl, (by decide +kernel), rfl, (by decide), (by decide), (fun h => absurd h (by decide))⟩
set_option maxRecDepth 100000 in
theorem mi_pc77 : mi_PC (1, 196, 80, 1, 0, 779, 780, 781, 76, 782) := ⟨(fun _ => rfl), (fun h => absurd h (by decide)), (fun h => absurd h (by decide)), (fun _ => rfl), (fun _ => rfl), rfl, rfl, rfl, (by decide +kernel), rfl, (by decide), (by decide), (fun h => absurd h (by decide))⟩
set_option maxRecDepth 100000 in
theorem mi_pc78 : mi_PC (13, 61, 125, 5, 0, 783, 784, 785, 71, 786) := ⟨(fun _ => rfl), (fun h => absurd h (by decide)), (fun h => absurd h (by decide)), (fun _ => rfl), (fun _ => rfl), rfl, rfl, rfl, (by decide +kernel), rfl, (by decide), (by decide), (fun h => absurd h (by decide))⟩
set_option maxRecDepth 100000 in
theorem mi_pc79 : mi_PC (11, 153, 143, 3, 0, 787, 789, 9, 71, 790) := ⟨(fun _ => rfl), (fun h => absurd h (by decide)), (fun h => absurd h (by decide)), (fun _ => rfl), (fun _ => rfl), rfl, rfl, rfl, (by decide +kernel), rfl, (by decide), (by decide), (fun h => absurd h (by decide))⟩
set_option maxRecDepth 100000 in
theorem mi_pc80 : mi_PC (11, 184, 2, 2, 0, 791, 451, 452, 73, 453) := ⟨(fun _ => rfl), (fun h => absurd h (by decide)), (fun h => absurd h (by decide)), (fun _ => rfl), (fun _ => rfl), rfl, rfl, rfl, (by decide +kernel), rfl, (by decide), (by decide), (fun h => absurd h (by decide))⟩
set_option maxRecDepth 100000 in
theorem mi_pc81 : mi_PC (11, 289, 147, 1, 1, 792, 602, 0, 71, 603) := ⟨(fun _ => rfl), (fun h => absurd h (by decide)), (fun _ => rfl), (fun h => absurd h (by decide)), (fun h => absurd h (by decide)), rfl, rfl, rfl, (by decide +kernel), rfl, (by decide), (by decide), (fun h => absurd h (by decide))⟩
set_option maxRecDepth 100000 in
theorem mi_pc82 : mi_PC (11, 292, 145, 1, 1, 793, 794, 0, 71, 795) := ⟨(fun _ => rfl), (fun h => absurd h (by decide)), (fun _ => rfl), (fun h => absurd h (by decide)), (fun h => absurd h (by decide)), rfl, rfl, rfl, (by decide +kernel), rfl, (by decide), (by decide), (fun h => absurd h (by decide))⟩
set_option maxRecDepth 100000 in
theorem mi_pc83 : mi_PC (11, 224, 3, 2, 0, 797, 546, 547, 73, 548) := ⟨(fun _ => rfl), (fun h => absurd h (by decide)), (fun h => absurd h (by decide)), (fun _ => rfl), (fun _ => rfl), rfl, rfl, rfl, (by decide +kernel), rfl, (by decide), (by decide), (fun h => absurd h (by decide))⟩
set_option maxRecDepth 100000 in
theorem mi_pc84 : mi_PC (11, 156, 144, 3, 0, 798, 800, 10, 71, 801) := ⟨(fun _ => rfl), (fun h => absurd h (by decide)), (fun h => absurd h (by decide)), (fun _ => rfl), (fun _ => rfl), rfl, rfl, rfl, (by decide +kernel), rfl, (by decide), (by decide), (fun h => absurd h (by decide))⟩
set_option maxRecDepth 100000 in
theorem mi_pc85 : mi_PC (11, 246, 99, 1, 0, 802, 803, 804, 81, 805) := ⟨(fun _ => rfl), (fun h => absurd h (by decide)), (fun h => absurd h (by decide)), (fun _ => rfl), (fun _ => rfl), rfl, rfl, rfl, (by decide +kernel), rfl, (by decide), (by decide), (fun h => absurd h (by decide))⟩
set_option maxRecDepth 100000 in
theorem mi_pc86 : mi_PC (11, 247, 100, 2, 0, 806, 807, 808, 81, 809) := ⟨(fun _ => rfl), (fun h => absurd h (by decide)), (fun h => absurd h (by decide)), (fun _ => rfl), (fun _ => rfl), rfl, rfl, rfl, (by decide +kernel), rfl, (by decide), (by decide), (fun h => absurd h (by decide))⟩
set_option maxRecDepth 100000 in
theorem mi_pc87 : mi_PC (11, 249, 101, 2, 0, 811, 812, 813, 81, 814) := ⟨(fun _ => rfl), (fun h => absurd h (by decide)), (fun h => absurd h (by decide)), (fun _ => rfl), (fun _ => rfl), rfl, rfl, rfl, (by decide +kernel), rfl, (by decide), (by decide), (fun h => absurd h (by decide))⟩
set_option maxRecDepth 100000 in
theorem mi_pc88 : mi_PC (9, 54, 102, 2, 0, 821, 823, 11, 81, 824) := ⟨(fun _ => rfl), (fun h => absurd h (by decide)), (fun h => absurd h (by decide)), (fun _ => rfl), (fun _ => rfl), rfl, rfl, rfl, (by decide +kernel), rfl, (by decide), (by decide), (fun h => absurd h (by decide))⟩
set_option maxRecDepth 100000 in
theorem mi_pc89 : mi_PC (9, 60, 103, 1, 0, 826, 828, 12, 81, 829) := ⟨(fun _ => rfl), (fun h => absurd h (by decide)), (fun h => absurd h (by decide)), (fun _ => rfl), (fun _ => rfl), rfl, rfl, rfl, (by decide +kernel), rfl, (by decide), (by decide), (fun h => absurd h (by decide))⟩
set_option maxRecDepth 100000 in
theorem mi_pc90 : mi_PC (9, 64, 68, 3, 0, 830, 667, 668, 75, 669) := ⟨(fun _ => rfl), (fun h => absurd h (by decide)), (fun h => absurd h (by decide)), (fun _ => rfl), (fun _ => rfl), rfl, rfl, rfl, (by decide +kernel), rfl, (by decide), (by decide), (fun h => absurd h (by decide))⟩
set_option maxRecDepth 100000 in
theorem mi_pc91 : mi_PC (13, 66, 126, 1, 0, 831, 832, 833, 71, 834) := ⟨(fun _ => rfl), (fun h => absurd h (by decide)), (fun h => absurd h (by decide)), (fun _ => rfl), (fun _ => rfl), rfl, rfl, rfl, (by decide +kernel), rfl, (by decide), (by decide), (fun h => absurd h (by decide))⟩
set_option maxRecDepth 100000 in
theorem mi_pc92 : mi_PC (11, 159, 58, 1, 0, 835, 836, 837, 78, 838) := ⟨(fun _ => rfl), (fun h => absurd h (by decide)), (fun h => absurd h (by decide)), (fun _ => rfl), (fun _ => rfl), rfl, rfl, rfl, (by decide +kernel), rfl, (by decide), (by decide), (fun h => absurd h (by decide))⟩
set_option maxRecDepth 100000 in
theorem mi_pc93 : mi_PC (13, 70, 127, 3, 0, 839, 840, 841, 71, 842) := ⟨(fun _ => rfl), (fun h => absurd h (by decide)), (fun h => absurd h (by decide)), (fun _ => rfl), (fun _ => rfl), rfl, rfl, rfl, (by decide +kernel), rfl, (by decide), (by decide), (fun h => absurd h (by decide))⟩
set_option maxRecDepth 100000 in
theorem mi_pc94 : mi_PC (11, 163, 59, 3, 0, 843, 844, 845, 78, 846) := ⟨(fun _ => rfl), (fun h => absurd h (by decide)), (fun h => absurd h (by decide)), (fun _ => rfl), (fun _ => rfl), rfl, rfl, rfl, (by decide +kernel), rfl, (by decide), (by decide), (fun h => absurd h (by decide))⟩
set_option maxRecDepth 100000 in
theorem mi_pc95 : mi_PC (11, 167, 105, 1, 0, 848, 849, 850, 82, 851) := ⟨(fun _ => rfl), (fun h => absurd h (by decide)), (fun h => absurd h (by decide)), (fun _ => rfl), (fun _ => rfl), rfl, rfl, rfl, (by decide +kernel), rfl, (by decide), (by decide), (fun h => absurd h (by decide))⟩
set_option maxRecDepth 100000 in
theorem mi_pc96 : mi_PC (13, 74, 128, 1, 0, 852, 853, 854, 71, 855) := ⟨(fun _ => rfl), (fun h => absurd h (by decide)), (fun h => absurd h (by decide)), (fun _ => rfl), (fun _ => rfl), rfl, rfl, rfl, (by decide +kernel), rfl, (by decide), (by decide), (fun h => absurd h (by decide))⟩
set_option maxRecDepth 100000 in
theorem mi_pc97 : mi_PC (11, 169, 83, 1, 0, 856, 857, 858, 79, 859) := ⟨(fun _ => rfl), (fun h => absurd h (by decide)), (fun h => absurd h (by decide)), (fun _ => rfl), (fun _ => rfl), rfl, rfl, rfl, (by decide +kernel), rfl, (by decide), (by decide), (fun h => absurd h (by decide))⟩
set_option maxRecDepth 100000 in
theorem mi_pc98 : mi_PC (8, 28, 16, 1, 0, 860, 861, 862, 72, 863) := ⟨(fun _ => rfl), (fun h => absurd h (by decide)), (fun h => absurd h (by decide)), (fun _ => rfl), (fun _ => rfl), rfl, rfl, rfl, (by decide +kernel), rfl, (by decide), (by decide), (fun h => absurd h (by decide))⟩
set_option maxRecDepth 100000 in
theorem mi_pc99 : mi_PC (1, 45, 1, 1, 0, 864, 865, 866, 73, 867) := ⟨(fun _ => rfl), (fun h => absurd h (by decide)), (fun h => absurd h (by decide)), (fun _ => rfl), (fun _ => rfl), rfl, rfl, rfl, (by decide +kernel), rfl, (by decide), (by decide), (fun h => absurd h (by decide))⟩
set_option maxRecDepth 100000 in
theorem mi_pc100 : mi_PC (1, 48, 71, 1, 0, 868, 869, 870, 76, 871) := ⟨(fun _ => rfl), (fun h => absurd h (by decide)), (fun h => absurd h (by decide)), (fun _ => rfl), (fun _ => rfl), rfl, rfl, rfl, (by decide +kernel), rfl, (by decide), (by decide), (fun h => absurd h (by decide))⟩
set_option maxRecDepth 100000 in
theorem mi_pc101 : mi_PC (1, 49, 38, 1, 0, 872, 873, 874, 77, 875) := ⟨(fun _ => rfl), (fun h => absurd h (by decide)), (fun h => absurd h (by decide)), (fun _ => rfl), (fun _ => rfl), rfl, rfl, rfl, (by decide +kernel), rfl, (by decide), (by decide), (fun h => absurd h (by decide))⟩
set_option maxRecDepth 100000 in
theorem mi_pc102 : mi_PC (8, 33, 57, 2, 0, 876, 877, 878, 78, 879) := ⟨(fun _ => rfl), (fun h => absurd h (by decide)), (fun h => absurd h (by decide)), (fun _ => rfl), (fun _ => rfl), rfl, rfl, rfl, (by decide +kernel), rfl, (by decide), (by decide), (fun h => absurd h (by decide))⟩
set_option maxRecDepth 100000 in
theorem mi_pc103 : mi_PC (8, 39, 84, 3, 0, 880, 882, 13, 79, 883) := ⟨(fun _ => rfl), (fun h => absurd h (by decide)), (fun h => absurd h (by decide)), (fun _ => rfl), (fun _ => rfl), rfl, rfl, rfl, (by decide +kernel), rfl, (by decide), (by decide), (fun h => absurd h (by decide))⟩
set_option maxRecDepth 100000 in
theorem mi_pc104 : mi_PC (8, 66, 85, 1, 0, 885, 887, 14, 79, 888) := ⟨(fun _ => rfl), (fun h => absurd h (by decide)), (fun h => absurd h (by decide)), (fun _ => rfl), (fun _ => rfl), rfl, rfl, rfl, (by decide +kernel), rfl, (by decide), (by decide), (fun h => absurd h (by decide))⟩
set_option maxRecDepth 100000 in
theorem mi_pc105 : mi_PC (8, 91, 96, 1, 0, 889, 891, 15, 79, 892) := ⟨(fun _ => rfl), (fun h => absurd h (by decide)), (fun h => absurd h (by decide)), (fun _ => rfl), (fun _ => rfl), rfl, rfl, rfl, (by decide +kernel), rfl, (by decide), (by decide), (fun h => absurd h (by decide))⟩
set_option maxRecDepth 100000 in
theorem mi_pc106 : mi_PC (8, 152, 97, 1, 0, 893, 895, 16, 79, 896) := ⟨(fun _ => rfl), (fun h => absurd h (by decide)), (fun h => absurd h (by decide)), (fun _ => rfl), (fun _ => rfl), rfl, rfl, rfl, (by decide +kernel), rfl, (by decide), (by decide), (fun h => absurd h (by decide))⟩
set_option maxRecDepth 100000 in
theorem mi_pc107 : mi_PC (8, 95, 95, 1, 0, 897, 899, 17, 79, 900) := ⟨(fun _ => rfl), (fun h => absurd h (by decide)), (fun h => absurd h (by decide)), (fun _ => rfl), (fun _ => rfl), rfl, rfl, rfl, (by decide +kernel), rfl, (by decide), (by decide), (fun h => absurd h (by decide))⟩
set_option maxRecDepth 100000 in
theorem mi_pc108 : mi_PC (8, 98, 94, 1, 0, 901, 903, 18, 79, 904) := ⟨(fun _ => rfl), (fun h => absurd h (by decide)), (fun h => absurd h (by decide)), (fun _ => rfl), (fun _ => rfl), rfl, rfl, rfl, (by decide +kernel), rfl, (by decide), (by decide), (fun h => absurd h (by decide))⟩
set_option maxRecDepth 100000 in
theorem mi_pc109 : mi_PC (8, 101, 17, 4, 0, 905, 447, 448, 72, 449) := ⟨(fun _ => rfl), (fun h => absurd h (by decide)), (fun h => absurd h (by decide)), (fun _ => rfl), (fun _ => rfl), rfl, rfl, rfl, (by decide +kernel), rfl, (by decide), (by decide), (fun h => absurd h (by decide))⟩
set_option maxRecDepth 100000 in
theorem mi_pc110 : mi_PC (8, 109, 8, 5, 0, 906, 515, 516, 73, 517) := ⟨(fun _ => rfl), (fun h => absurd h (by decide)), (fun h => absurd h (by decide)), (fun _ => rfl), (fun _ => rfl), rfl, rfl, rfl, (by decide +kernel), rfl, (by decide), (by decide), (fun h => absurd h (by decide))⟩
set_option maxRecDepth 100000 in
theorem mi_pc111 : mi_PC (8, 70, 86, 1, 0, 907, 909, 19, 79, 910) := ⟨(fun _ => rfl), (fun h => absurd h (by decide)), (fun h => absurd h (by decide)), (fun _ => rfl), (fun _ => rfl), rfl, rfl, rfl, (by decide +kernel), rfl, (by decide), (by decide), (fun h => absurd h (by decide))⟩
set_option maxRecDepth 100000 in
theorem mi_pc112 : mi_PC (8, 115, 18, 3, 0, 911, 542, 543, 72, 544) := ⟨(fun _ => rfl), (fun h => absurd h (by decide)), (fun h => absurd h (by decide)), (fun _ => rfl), (fun _ => rfl), rfl, rfl, rfl, (by decide +kernel), rfl, (by decide), (by decide), (fun h => absurd h (by decide))⟩
set_option maxRecDepth 100000 in
theorem mi_pc113 : mi_PC (8, 119, 5, 3, 0, 912, 555, 556, 73, 557) := ⟨(fun _ => rfl), (fun h => absurd h (by decide)), (fun h => absurd h (by decide)), (fun _ => rfl), (fun _ => rfl), rfl, rfl, rfl, (by decide +kernel), rfl, (by decide), (by decide), (fun h => absurd h (by decide))⟩
set_option maxRecDepth 100000 in
theorem mi_pc114 : mi_PC (8, 73, 87, 1, 0, 913, 915, 20, 79, 916) := ⟨(fun _ => rfl), (fun h => absurd h (by decide)), (fun h => absurd h (by decide)), (fun _ => rfl), (fun _ => rfl), rfl, rfl, rfl, (by decide +kernel), rfl, (by decide), (by decide), (fun h => absurd h (by decide))⟩
set_option maxRecDepth 100000 in
theorem mi_pc115 : mi_PC (8, 123, 19, 2, 0, 917, 563, 564, 72, 565) := ⟨(fun _ => rfl), (fun h => absurd h (by decide)), (fun h => absurd h (by decide)), (fun _ => rfl), (fun _ => rfl), rfl, rfl, rfl, (by decide +kernel), rfl, (by decide), (by decide), (fun h => absurd h (by decide))⟩
set_option maxRecDepth 100000 in
theorem mi_pc116 : mi_PC (8, 130, 73, 2, 0, 918, 576, 577, 76, 578) := ⟨(fun _ => rfl), (fun h => absurd h (by decide)), (fun h => absurd h (by decide)), (fun _ => rfl), (fun _ => rfl), rfl, rfl, rfl, (by decide +kernel), rfl, (by decide), (by decide), (fun h => absurd h (by decide))⟩
set_option maxRecDepth 100000 in
theorem mi_pc117 : mi_PC (8, 76, 88, 1, 0, 919, 921, 21, 79, 922) := ⟨(fun _ => rfl), (fun h => absurd h (by decide)), (fun h => absurd h (by decide)), (fun _ => rfl), (fun _ => rfl), rfl, rfl, rfl, (by decide +kernel), rfl, (by decide), (by decide), (fun h => absurd h (by decide))⟩
set_option maxRecDepth 100000 in
theorem mi_pc118 : mi_PC (8, 134, 20, 2, 0, 923, 585, 586, 72, 587) := ⟨(fun _ => rfl), (fun h => absurd h (by decide)), (fun h => absurd h (by decide)), (fun _ => rfl), (fun _ => rfl), rfl, rfl, rfl, (by decide +kernel), rfl, (by decide), (by decide), (fun h => absurd h (by decide))⟩
set_option maxRecDepth 100000 in
theorem mi_pc119 : mi_PC (8, 137, 21, 2, 0, 924, 590, 591, 72, 592) := ⟨(fun _ => rfl), (fun h => absurd h (by decide)), (fun h => absurd h (by decide)), (fun _ => rfl), (fun _ => rfl), rfl, rfl, rfl, (by decide +kernel), rfl, (by decide), (by decide), (fun h => absurd h (by decide))⟩
set_option maxRecDepth 100000 in
theorem mi_pc120 : mi_PC (8, 79, 89, 1, 0, 925, 927, 22, 79, 928) := ⟨(fun _ => rfl), (fun h => absurd h (by decide)), (fun h => absurd h (by decide)), (fun _ => rfl), (fun _ => rfl), rfl, rfl, rfl, (by decide +kernel), rfl, (by decide), (by decide), (fun h => absurd h (by decide))⟩
set_option maxRecDepth 100000 in
theorem mi_pc121 : mi_PC (8, 140, 90, 1, 0, 929, 931, 23, 79, 932) := ⟨(fun _ => rfl), (fun h => absurd h (by decide)), (fun h => absurd h (by decide)), (fun _ => rfl), (fun _ => rfl), rfl, rfl, rfl, (by decide +kernel), rfl, (by decide), (by decide), (fun h => absurd h (by decide))⟩
set_option maxRecDepth 100000 in
theorem mi_pc122 : mi_PC (8, 151, 62, 1, 0, 933, 619, 620, 80, 621) := ⟨(fun _ => rfl), (fun h => absurd h (by decide)), (fun h => absurd h (by decide)), (fun _ => rfl), (fun _ => rfl), rfl, rfl, rfl, (by decide +kernel), rfl, (by decide), (by decide), (fun h => absurd h (by decide))⟩
set_option maxRecDepth 100000 in
theorem mi_pc123 : mi_PC (8, 156, 22, 3, 0, 934, 598, 599, 72, 600) := ⟨(fun _ => rfl), (fun h => absurd h (by decide)), (fun h => absurd h (by decide)), (fun _ => rfl), (fun _ => rfl), rfl, rfl, rfl, (by decide +kernel), rfl, (by decide), (by decide), (fun h => absurd h (by decide))⟩
set_option maxRecDepth 100000 in
theorem mi_pc124 : mi_PC (8, 160, 63, 3, 0, 935, 609, 610, 80, 611) := ⟨(fun _ => rfl), (fun h => absurd h (by decide)), (fun h => absurd h (by decide)), (fun _ => rfl), (fun _ => rfl), rfl, rfl, rfl, (by decide +kernel), rfl, (by decide), (by decide), (fun h => absurd h (by decide))⟩
set_option maxRecDepth 100000 in
theorem mi_pc125 : mi_PC (8, 143, 23, 3, 0, 936, 631, 632, 72, 633) := ⟨(fun _ => rfl), (fun h => absurd h (by decide)), (fun h => absurd h (by decide)), (fun _ => rfl), (fun _ => rfl), rfl, rfl, rfl, (by decide +kernel), rfl, (by decide), (by decide), (fun h => absurd h (by decide))⟩
set_option maxRecDepth 100000 in
theorem mi_pc126 : mi_PC (8, 147, 27, 6, 0, 937, 677, 678, 72, 679) := ⟨(fun _ => rfl), (fun h => absurd h (by decide)), (fun h => absurd h (by decide)), (fun _ => rfl), (fun _ => rfl), rfl, rfl, rfl, (by decide +kernel), rfl, (by decide), (by decide), (fun h => absurd h (by decide))⟩
set_option maxRecDepth 100000 in
theorem mi_pc127 : mi_PC (8, 82, 91, 1, 0, 938, 940, 24, 79, 941) := ⟨(fun _ => rfl), (fun h => absurd h (by decide)), (fun h => absurd h (by decide)), (fun _ => rfl), (fun _ => rfl), rfl, rfl, rfl, (by decide +kernel), rfl, (by decide), (by decide), (fun h => absurd h (by decide))⟩
set_option maxRecDepth 100000 in
theorem mi_pc128 : mi_PC (8, 163, 28, 4, 0, 942, 698, 699, 72, 700) := ⟨(fun _ => rfl), (fun h => absurd h (by decide)), (fun h => absurd h (by decide)), (fun _ => rfl), (fun _ => rfl), rfl, rfl, rfl, (by decide +kernel), rfl, (by decide), (by decide), (fun h => absurd h (by decide))⟩
set_option maxRecDepth 100000 in
theorem mi_pc129 : mi_PC (8, 167, 29, 4, 0, 943, 721, 722, 72, 723) := ⟨(fun _ => rfl), (fun h => absurd h (by decide)), (fun h => absurd h (by decide)), (fun _ => rfl), (fun _ => rfl), rfl, rfl, rfl, (by decide +kernel), rfl, (by decide), (by decide), (fun h => absurd h (by decide))⟩
set_option maxRecDepth 100000 in
theorem mi_pc130 : mi_PC (8, 85, 92, 1, 0, 944, 946, 25, 79, 947) := ⟨(fun _ => rfl), (fun h => absurd h (by decide)), (fun h => absurd h (by decide)), (fun _ => rfl), (fun _ => rfl), rfl, rfl, rfl, (by decide +kernel), rfl, (by decide), (by decide), (fun h => absurd h (by decide))⟩
set_option maxRecDepth 100000 in
theorem mi_pc131 : mi_PC (8, 170, 30, 2, 0, 948, 731, 732, 72, 733) := ⟨(fun _ => rfl), (fun h => absurd h (by decide)), (fun h => absurd h (by decide)), (fun _ => rfl), (fun _ => rfl), rfl, rfl, rfl, (by decide +kernel), rfl, (by decide), (by decide), (fun h => absurd h (by decide))⟩
set_option maxRecDepth 100000 in
theorem mi_pc132 : mi_PC (8, 174, 33, 2, 0, 949, 756, 757, 72, 758) := ⟨(fun _ => rfl), (fun h => absurd h (by decide)), (fun h => absurd h (by decide)), (fun _ => rfl), (fun _ => rfl), rfl, rfl, rfl, (by decide +kernel), rfl, (by decide), (by decide), (fun h => absurd h (by decide))⟩
set_option maxRecDepth 100000 in
theorem mi_pc133 : mi_PC (8, 88, 93, 1, 0, 950, 952, 26, 79, 953) := ⟨(fun _ => rfl), (fun h => absurd h (by decide)), (fun h => absurd h (by decide)), (fun _ => rfl), (fun _ => rfl), rfl, rfl, rfl, (by decide +kernel), rfl, (by decide), (by decide), (fun h => absurd h (by decide))⟩
set_option maxRecDepth 100000 in
theorem mi_pc134 : mi_PC (8, 177, 34, 2, 0, 954, 768, 769, 72, 770) := ⟨(fun _ => rfl), (fun h => absurd h (by decide)), (fun h => absurd h (by decide)), (fun _ => rfl), (fun _ => rfl), rfl, rfl, rfl, (by decide +kernel), rfl, (by decide), (by decide), (fun h => absurd h (by decide))⟩
set_option maxRecDepth 100000 in
theorem mi_pc135 : mi_PC (8, 180, 35, 2, 0, 955, 776, 777, 72, 778) := ⟨(fun _ => rfl), (fun h => absurd h (by decide)), (fun h => absurd h (by decide)), (fun _ => rfl), (fun _ => rfl), rfl, rfl, rfl, (by decide +kernel), rfl, (by decide), (by decide), (fun h => absurd h (by decide))⟩
set_option maxRecDepth 100000 in
theorem mi_pc136 : mi_PC (8, 43, 60, 3, 0, 956, 957, 958, 78, 959) := ⟨(fun _ => rfl), (fun h => absurd h (by decide)), (fun h => absurd h (by decide)), (fun _ => rfl), (fun _ => rfl), rfl, rfl, rfl, (by decide +kernel), rfl, (by decide), (by decide), (fun h => absurd h (by decide))⟩
set_option maxRecDepth 100000 in
theorem mi_pc137 : mi_PC (13, 78, 129, 2, 0, 960, 961, 962, 71, 963) := ⟨(fun _ => rfl), (fun h => absurd h (by decide)), (fun h => absurd h (by decide)), (fun _ => rfl), (fun _ => rfl), rfl, rfl, rfl, (by decide +kernel), rfl, (by decide), (by decide), (fun h => absurd h (by decide))⟩
set_option maxRecDepth 100000 in
theorem mi_pc138 : mi_PC (13, 82, 130, 3, 0, 964, 965, 966, 71, 967) := ⟨(fun _ => rfl), (fun h => absurd h (by decide)), (fun h => absurd h (by decide)), (fun _ => rfl), (fun _ => rfl), rfl, rfl, rfl, (by decide +kernel), rfl, (by decide), (by decide), (fun h => absurd h (by decide))⟩
set_option maxRecDepth 100000 in
theorem mi_pc139 : mi_PC (11, 188, 14, 3, 0, 968, 969, 970, 73, 971) := ⟨(fun _ => rfl), (fun h => absurd h (by decide)), (fun h => absurd h (by decide)), (fun _ => rfl), (fun _ => rfl), rfl, rfl, rfl, (by decide +kernel), rfl, (by decide), (by decide), (fun h => absurd h (by decide))⟩
set_option maxRecDepth 100000 in
theorem mi_pc140 : mi_PC (13, 86, 131, 2, 0, 972, 973, 974, 71, 975) := ⟨(fun _ => rfl), (fun h => absurd h (by decide)), (fun h => absurd h (by decide)), (fun _ => rfl), (fun _ => rfl), rfl, rfl, rfl, (by decide +kernel), rfl, (by decide), (by decide), (fun h => absurd h (by decide))⟩
set_option maxRecDepth 100000 in
theorem mi_pc141 : mi_PC (11, 198, 11, 3, 0, 977, 978, 979, 73, 980) := ⟨(fun _ => rfl), (fun h => absurd h (by decide)), (fun h => absurd h (by decide)), (fun _ => rfl), (fun _ => rfl), rfl, rfl, rfl, (by decide +kernel), rfl, (by decide), (by decide), (fun h => absurd h (by decide))⟩
set_option maxRecDepth 100000 in
theorem mi_pc142 : mi_PC (0, 73, 3, 2, 0, 981, 546, 547, 73, 548) := ⟨(fun _ => rfl), (fun h => absurd h (by decide)), (fun h => absurd h (by decide)), (fun _ => rfl), (fun _ => rfl), rfl, rfl, rfl, (by decide +kernel), rfl, (by decide), (by decide), (fun h => absurd h (by decide))⟩
set_option maxRecDepth 100000 in
theorem mi_pc143 : mi_PC (0, 79, 12, 3, 0, 983, 985, 27, 73, 986) := ⟨(fun _ => rfl), (fun h => absurd h (by decide)), (fun h => absurd h (by decide)), (fun _ => rfl), (fun _ => rfl), rfl, rfl, rfl, (by decide +kernel), rfl, (by decide), (by decide), (fun h => absurd h (by decide))⟩
set_option maxRecDepth 100000 in
theorem mi_pc144 : mi_PC (13, 91, 132, 4, 0, 987, 988, 989, 71, 990) := ⟨(fun _ => rfl), (fun h => absurd h (by decide)), (fun h => absurd h (by decide)), (fun _ => rfl), (fun _ => rfl), rfl, rfl, rfl, (by decide +kernel), rfl, (by decide), (by decide), (fun h => absurd h (by decide))⟩
set_option maxRecDepth 100000 in
theorem mi_pc145 : mi_PC (11, 202, 36, 4, 0, 991, 992, 993, 72, 994) := ⟨(fun _ => rfl), (fun h => absurd h (by decide)), (fun h => absurd h (by decide)), (fun _ => rfl), (fun _ => rfl), rfl, rfl, rfl, (by decide +kernel), rfl, (by decide), (by decide), (fun h => absurd h (by decide))⟩
set_option maxRecDepth 100000 in
theorem mi_pc146 : mi_PC (1, 199, 11, 3, 0, 995, 978, 979, 73, 980) := ⟨(fun _ => rfl), (fun h => absurd h (by decide)), (fun h => absurd h (by decide)), (fun _ => rfl), (fun _ => rfl), rfl, rfl, rfl, (by decide +kernel), rfl, (by decide), (by decide), (fun h => absurd h (by decide))⟩
set_option maxRecDepth 100000 in
theorem mi_pc147 : mi_PC (13, 96, 133, 3, 0, 996, 997, 998, 71, 999) := ⟨(fun _ => rfl), (fun h => absurd h (by decide)), (fun h => absurd h (by decide)), (fun _ => rfl), (fun _ => rfl), rfl, rfl, rfl, (by decide +kernel), rfl, (by decide), (by decide), (fun h => absurd h (by decide))⟩
set_option maxRecDepth 100000 in
theorem mi_pc148 : mi_PC (11, 210, 39, 2, 0, 1000, 702, 703, 77, 704) := ⟨(fun _ => rfl), (fun h => absurd h (by decide)), (fun h => absurd h (by decide)), (fun _ => rfl), (fun _ => rfl), rfl, rfl, rfl, (by decide +kernel), rfl, (by decide), (by decide), (fun h => absurd h (by decide))⟩
set_option maxRecDepth 100000 in
theorem mi_pc149 : mi_PC (11, 213, 47, 3, 0, 1001, 1002, 1003, 77, 1004) := ⟨(fun _ => rfl), (fun h => absurd h (by decide)), (fun h => absurd h (by decide)), (fun _ => rfl), (fun _ => rfl), rfl, rfl, rfl, (by decide +kernel), rfl, (by decide), (by decide), (fun h => absurd h (by decide))⟩
set_option maxRecDepth 100000 in
theorem mi_pc150 : mi_PC (13, 100, 134, 4, 0, 1005, 1006, 1007, 71, 1008) := ⟨(fun _ => rfl), (fun h => absurd h (by decide)), (fun h => absurd h (by decide)), (fun _ => rfl), (fun _ => rfl), rfl, rfl, rfl, (by decide +kernel), rfl, (by decide), (by decide), (fun h => absurd h (by decide))⟩
set_option maxRecDepth 100000 in
theorem mi_pc151 : mi_PC (11, 217, 41, 3, 0, 1009, 711, 712, 77, 713) := ⟨(fun _ => rfl), (fun h => absurd h (by decide)), (fun h => absurd h (by decide)), (fun _ => rfl), (fun _ => rfl), rfl, rfl, rfl, (by decide +kernel), rfl, (by decide), (by decide), (fun h => absurd h (by decide))⟩
set_option maxRecDepth 100000 in
theorem mi_pc152 : mi_PC (11, 220, 42, 3, 0, 1010, 715, 716, 77, 717) := ⟨(fun _ => rfl), (fun h => absurd h (by decide)), (fun h => absurd h (by decide)), (fun _ => rfl), (fun _ => rfl), rfl, rfl, rfl, (by decide +kernel), rfl, (by decide), (by decide), (fun h => absurd h (by decide))⟩
set_option maxRecDepth 100000 in
theorem mi_pc153 : mi_PC (13, 104, 135, 4, 0, 1011, 1012, 1013, 71, 1014) := ⟨(fun _ => rfl), (fun h => absurd h (by decide)), (fun h => absurd h (by decide)), (fun _ => rfl), (fun _ => rfl), rfl, rfl, rfl, (by decide +kernel), rfl, (by decide), (by decide), (fun h => absurd h (by decide))⟩
set_option maxRecDepth 100000 in
theorem mi_pc154 : mi_PC (11, 228, 45, 4, 0, 1015, 1016, 1017, 77, 1018) := ⟨(fun _ => rfl), (fun h => absurd h (by decide)), (fun h => absurd h (by decide)), (fun _ => rfl), (fun _ => rfl), rfl, rfl, rfl, (by decide +kernel), rfl, (by decide), (by decide), (fun h => absurd h (by decide))⟩
set_option maxRecDepth 100000 in
theorem mi_pc155 : mi_PC (2, 96, 46, 4, 1, 1019, 1020, 0, 77, 1021) := ⟨(fun _ => rfl), (fun h => absurd h (by decide)), (fun _ => rfl), (fun h => absurd h (by decide)), (fun h => absurd h (by decide)), rfl, rfl, rfl, (by decide +kernel), rfl, (by decide), (by decide), (fun h => absurd h (by decide))⟩
set_option maxRecDepth 100000 in
theorem mi_pc156 : mi_PC (13, 108, 136, 3, 0, 1023, 1024, 1025, 71, 1026) := ⟨(fun _ => rfl), (fun h => absurd h (by decide)), (fun h => absurd h (by decide)), (fun _ => rfl), (fun _ => rfl), rfl, rfl, rfl, (by decide +kernel), rfl, (by decide), (by decide), (fun h => absurd h (by decide))⟩
set_option maxRecDepth 100000 in
theorem mi_pc157 : mi_PC (11, 231, 72, 2, 0, 1027, 1028, 1029, 76, 1030) := ⟨(fun _ => rfl), (fun h => absurd h (by decide)), (fun h => absurd h (by decide)), (fun _ => rfl), (fun _ => rfl), rfl, rfl, rfl, (by decide +kernel), rfl, (by decide), (by decide), (fun h => absurd h (by decide))⟩
set_option maxRecDepth 100000 in
theorem mi_pc158 : mi_PC (11, 232, 81, 3, 0, 1031, 1032, 1033, 76, 1034) := ⟨(fun _ => rfl), (fun h => absurd h (by decide)), (fun h => absurd h (by decide)), (fun _ => rfl), (fun _ => rfl), rfl, rfl, rfl, (by decide +kernel), rfl, (by decide), (by decide), (fun h => absurd h (by decide))⟩
set_option maxRecDepth 100000 in
theorem mi_pc159 : mi_PC (7, 41, 75, 2, 0, 1035, 740, 741, 76, 742) := ⟨(fun _ => rfl), (fun h => absurd h (by decide)), (fun h => absurd h (by decide)), (fun _ => rfl), (fun _ => rfl), rfl, rfl, rfl, (by decide +kernel), rfl, (by decide), (by decide), (fun h => absurd h (by decide))⟩
set_option maxRecDepth 100000 in
theorem mi_pc160 : mi_PC (7, 44, 78, 2, 0, 1036, 772, 773, 76, 774) := ⟨(fun _ => rfl), (fun h => absurd h (by decide)), (fun h => absurd h (by decide)), (fun _ => rfl), (fun _ => rfl), rfl, rfl, rfl, (by decide +kernel), rfl, (by decide), (by decide), (fun h => absurd h (by decide))⟩
set_option maxRecDepth 100000 in
theorem mi_pc161 : mi_PC (13, 112, 137, 2, 0, 1037, 1038, 1039, 71, 1040) := ⟨(fun _ => rfl), (fun h => absurd h (by decide)), (fun h => absurd h (by decide)), (fun _ => rfl), (fun _ => rfl), rfl, rfl, rfl, (by decide +kernel), rfl, (by decide), (by decide), (fun h => absurd h (by decide))⟩
set_option maxRecDepth 100000 in
theorem mi_pc162 : mi_PC (11, 233, 106, 2, 0, 1041, 1042, 1043, 82, 1044) := ⟨(fun _ => rfl), (fun h => absurd h (by decide)), (fun h => absurd h (by decide)), (fun _ => rfl), (fun _ => rfl), rfl, rfl, rfl, (by decide +kernel), rfl, (by decide), (by decide), (fun h => absurd h (by decide))⟩
set_option maxRecDepth 100000 in
theorem mi_pc163 : mi_PC (10, 31, 105, 1, 0, 1045, 849, 850, 82, 851) := ⟨(fun _ => rfl), (fun h => absurd h (by decide)), (fun h => absurd h (by decide)), (fun _ => rfl), (fun _ => rfl), rfl, rfl, rfl, (by decide +kernel), rfl, (by decide), (by decide), (fun h => absurd h (by decide))⟩
set_option maxRecDepth 100000 in
theorem mi_pc164 : mi_PC (10, 34, 107, 1, 0, 1046, 1048, 28, 82, 1049) := ⟨(fun _ => rfl), (fun h => absurd h (by decide)), (fun h => absurd h (by decide)), (fun _ => rfl), (fun _ => rfl), rfl, rfl, rfl, (by decide +kernel), rfl, (by decide), (by decide), (fun h => absurd h (by decide))⟩
set_option maxRecDepth 100000 in
theorem mi_pc165 : mi_PC (10, 54, 3, 2, 0, 1051, 546, 547, 73, 548) := ⟨(fun _ => rfl), (fun h => absurd h (by decide)), (fun h => absurd h (by decide)), (fun _ => rfl), (fun _ => rfl), rfl, rfl, rfl, (by decide +kernel), rfl, (by decide), (by decide), (fun h => absurd h (by decide))⟩
set_option maxRecDepth 100000 in
theorem mi_pc166 : mi_PC (10, 67, 111, 2, 0, 1053, 1055, 29, 82, 1056) := ⟨(fun _ => rfl), (fun h => absurd h (by decide)), (fun h => absurd h (by decide)), (fun _ => rfl), (fun _ => rfl), rfl, rfl, rfl, (by decide +kernel), rfl, (by decide), (by decide), (fun h => absurd h (by decide))⟩
set_option maxRecDepth 100000 in
theorem mi_pc167 : mi_PC (10, 87, 113, 2, 0, 1057, 1059, 30, 82, 1060) := ⟨(fun _ => rfl), (fun h => absurd h (by decide)), (fun h => absurd h (by decide)), (fun _ => rfl), (fun _ => rfl), rfl, rfl, rfl, (by decide +kernel), rfl, (by decide), (by decide), (fun h => absurd h (by decide))⟩
set_option maxRecDepth 100000 in
theorem mi_pc168 : mi_PC (10, 100, 11, 3, 0, 1062, 978, 979, 73, 980) := ⟨(fun _ => rfl), (fun h => absurd h (by decide)), (fun h => absurd h (by decide)), (fun _ => rfl), (fun _ => rfl), rfl, rfl, rfl, (by decide +kernel), rfl, (by decide), (by decide), (fun h => absurd h (by decide))⟩
set_option maxRecDepth 100000 in
theorem mi_pc169 : mi_PC (10, 90, 112, 2, 0, 1063, 1065, 31, 82, 1066) := ⟨(fun _ => rfl), (fun h => absurd h (by decide)), (fun h => absurd h (by decide)), (fun _ => rfl), (fun _ => rfl), rfl, rfl, rfl, (by decide +kernel), rfl, (by decide), (by decide), (fun h => absurd h (by decide))⟩
set_option maxRecDepth 100000 in
theorem mi_pc170 : mi_PC (10, 37, 108, 4, 0, 1069, 1071, 32, 82, 1072) := ⟨(fun _ => rfl), (fun h => absurd h (by decide)), (fun h => absurd h (by decide)), (fun _ => rfl), (fun _ => rfl), rfl, rfl, rfl, (by decide +kernel), rfl, (by decide), (by decide), (fun h => absurd h (by decide))⟩
set_option maxRecDepth 100000 in
theorem mi_pc171 : mi_PC (10, 41, 109, 1, 0, 1073, 1075, 33, 82, 1076) := ⟨(fun _ => rfl), (fun h => absurd h (by decide)), (fun h => absurd h (by decide)), (fun _ => rfl), (fun _ => rfl), rfl, rfl, rfl, (by decide +kernel), rfl, (by decide), (by decide), (fun h => absurd h (by decide))⟩
set_option maxRecDepth 100000 in
theorem mi_pc172 : mi_PC (10, 76, 13, 2, 0, 1077, 1078, 1079, 73, 1080) := ⟨(fun _ => rfl), (fun h => absurd h (by decide)), (fun h => absurd h (by decide)), (fun _ => rfl), (fun _ => rfl), rfl, rfl, rfl, (by decide +kernel), rfl, (by decide), (by decide), (fun h => absurd h (by decide))⟩
set_option maxRecDepth 100000 in
theorem mi_pc173 : mi_PC (10, 83, 110, 3, 0, 1083, 1085, 34, 82, 1086) := ⟨(fun _ => rfl), (fun h => absurd h (by decide)), (fun h => absurd h (by decide)), (fun _ => rfl), (fun _ => rfl), rfl, rfl, rfl, (by decide +kernel), rfl, (by decide), (by decide), (fun h => absurd h (by decide))⟩
set_option maxRecDepth 100000 in
theorem mi_pc174 : mi_PC (13, 116, 138, 2, 0, 1087, 1088, 1089, 71, 1090) := ⟨(fun _ => rfl), (fun h => absurd h (by decide)), (fun h => absurd h (by decide)), (fun _ => rfl), (fun _ => rfl), rfl, rfl, rfl, (by decide +kernel), rfl, (by decide), (by decide), (fun h => absurd h (by decide))⟩
set_option maxRecDepth 100000 in
theorem mi_pc175 : mi_PC (13, 120, 139, 7, 0, 1091, 1092, 1093, 71, 1094) := ⟨(fun _ => rfl), (fun h => absurd h (by decide)), (fun h => absurd h (by decide)), (fun _ => rfl), (fun _ => rfl), rfl, rfl, rfl, (by decide +kernel), rfl, (by decide), (by decide), (fun h => absurd h (by decide))⟩
set_option maxRecDepth 100000 in
theorem mi_pc176 : mi_PC (11, 243, 146, 1, 1, 1095, 1096, 0, 71, 1097) := ⟨(fun _ => rfl), (fun h => absurd h (by decide)), (fun _ => rfl), (fun h => absurd h (by decide)), (fun h => absurd h (by decide)), rfl, rfl, rfl, (by decide +kernel), rfl, (by decide), (by decide), (fun h => absurd h (by decide))⟩
set_option maxRecDepth 100000 in
theorem mi_pc177 : mi_PC (13, 125, 140, 2, 0, 1098, 1099, 1100, 71, 1101) := ⟨(fun _ => rfl), (fun h => absurd h (by decide)), (fun h => absurd h (by decide)), (fun _ => rfl), (fun _ => rfl), rfl, rfl, rfl, (by decide +kernel), rfl, (by decide), (by decide), (fun h => absurd h (by decide))⟩
set_option maxRecDepth 100000 in
theorem mi_pc178 : mi_PC (11, 264, 141, 2, 0, 1102, 1104, 35, 71, 1105) := ⟨(fun _ => rfl), (fun h => absurd h (by decide)), (fun h => absurd h (by decide)), (fun _ => rfl), (fun _ => rfl), rfl, rfl, rfl, (by decide +kernel), rfl, (by decide), (by decide), (fun h => absurd h (by decide))⟩
set_option maxRecDepth 100000 in
theorem mi_pc179 : mi_PC (13, 12, 149, 1, 2, 1108, 1109, 0, 83, 1110) := ⟨(fun _ => rfl), (fun h => absurd h (by decide)), (fun h => absurd h (by decide)), (fun _ => rfl), (fun h => absurd h (by decide)), rfl, rfl, rfl, (by decide +kernel), rfl, (by decide), (by decide), (fun _ => ⟨rfl, rfl⟩)⟩
set_option maxRecDepth 100000 in
theorem mi_pc180 : mi_PC (13, 17, 159, 5, 0, 1261, 1262, 1263, 83, 1264) := ⟨(fun _ => rfl), (fun h => absurd h (by decide)), (fun h => absurd h (by decide)), (fun _ => rfl), (fun _ => rfl), rfl, rfl, rfl, (by decide +kernel), rfl, (by decide), (by decide), (fun h => absurd h (by decide))⟩
set_option maxRecDepth 100000 in
theorem mi_pc181 : mi_PC (12, 148, 151, 2, 0, 1265, 1267, 36, 83, 1268) := ⟨(fun _ => rfl), (fun h => absurd h (by decide)), (fun h => absurd h (by decide)), (fun _ => rfl), (fun _ => rfl), rfl, rfl, rfl, (by decide +kernel), rfl, (by decide), (by decide), (fun h => absurd h (by decide))⟩
set_option maxRecDepth 100000 in
theorem mi_pc182 : mi_PC (12, 116, 150, 3, 1, 1269, 1270, 0, 83, 1271) := ⟨(fun _ => rfl), (fun h => absurd h (by decide)), (fun _ => rfl), (fun h => absurd h (by decide)), (fun h => absurd h (by decide)), rfl, rfl, rfl, (by decide +kernel), rfl, (by decide), (by decide), (fun h => absurd h (by decide))⟩
set_option maxRecDepth 100000 in
theorem mi_pc183 : mi_PC (12, 156, 158, 2, 0, 1274, 1276, 37, 83, 1277) := ⟨(fun _ => rfl), (fun h => absurd h (by decide)), (fun h => absurd h (by decide)), (fun _ => rfl), (fun _ => rfl), rfl, rfl, rfl, (by decide +kernel), rfl, (by decide), (by decide), (fun h => absurd h (by decide))⟩
set_option maxRecDepth 100000 in
theorem mi_pc184 : mi_PC (12, 159, 152, 1, 0, 1278, 1280, 38, 83, 1281) := ⟨(fun _ => rfl), (fun h => absurd h (by decide)), (fun h => absurd h (by decide)), (fun _ => rfl), (fun _ => rfl), rfl, rfl, rfl, (by decide +kernel), rfl, (by decide), (by decide), (fun h => absurd h (by decide))⟩
set_option maxRecDepth 100000 in
theorem mi_pc185 : mi_PC (12, 162, 153, 2, 0, 1282, 1284, 39, 83, 1285) := ⟨(fun _ => rfl), (fun h => absurd h (by decide)), (fun h => absurd h (by decide)), (fun _ => rfl), (fun _ => rfl), rfl, rfl, rfl, (by decide +kernel), rfl, (by decide), (by decide), (fun h => absurd h (by decide))⟩
set_option maxRecDepth 100000 in
theorem mi_pc186 : mi_PC (12, 166, 154, 1, 0, 1289, 1291, 40, 83, 1292) := ⟨(fun _ => rfl), (fun h => absurd h (by decide)), (fun h => absurd h (by decide)), (fun _ => rfl), (fun _ => rfl), rfl, rfl, rfl, (by decide +kernel), rfl, (by decide), (by decide), (fun h => absurd h (by decide))⟩
set_option maxRecDepth 100000 in
theorem mi_pc187 : mi_PC (12, 170, 157, 2, 0, 1293, 1295, 41, 83, 1296) := ⟨(fun _ => rfl), (fun h => absurd h (by decide)), (fun h => absurd h (by decide)), (fun _ => rfl), (fun _ => rfl), rfl, rfl, rfl, (by decide +kernel), rfl, (by decide), (by decide), (fun h => absurd h (by decide))⟩
set_option maxRecDepth 100000 in
theorem mi_pc188 : mi_PC (12, 140, 155, 2, 1, 1298, 1299, 0, 83, 1300) := ⟨(fun _ => rfl), (fun h => absurd h (by decide)), (fun _ => rfl), (fun h => absurd h (by decide)), (fun h => absurd h (by decide)), rfl, rfl, rfl, (by decide +kernel), rfl, (by decide), (by decide), (fun h => absurd h (by decide))⟩
set_option maxRecDepth 100000 in
theorem mi_pc189 : mi_PC (12, 144, 156, 2, 0, 1302, 1304, 42, 83, 1305) := ⟨(fun _ => rfl), (fun h => absurd h (by decide)), (fun h => absurd h (by decide)), (fun _ => rfl), (fun _ => rfl), rfl, rfl, rfl, (by decide +kernel), rfl, (by decide), (by decide), (fun h => absurd h (by decide))⟩
set_option maxRecDepth 100000 in
theorem mi_pc190 : mi_PC (13, 22, 160, 3, 0, 1306, 1307, 1308, 83, 1309) := ⟨(fun _ => rfl), (fun h => absurd h (by decide)), (fun h => absurd h (by decide)), (fun _ => rfl), (fun _ => rfl), rfl, rfl, rfl, (by decide +kernel), rfl, (by decide), (by decide), (fun h => absurd h (by decide))⟩
set_option maxRecDepth 100000 in
theorem mi_pc191 : mi_PC (13, 27, 162, 2, 0, 1310, 1311, 1312, 83, 1313) := ⟨(fun _ => rfl), (fun h => absurd h (by decide)), (fun h => absurd h (by decide)), (fun _ => rfl), (fun _ => rfl), rfl, rfl, rfl, (by decide +kernel), rfl, (by decide), (by decide), (fun h => absurd h (by decide))⟩
set_option maxRecDepth 100000 in
theorem mi_pc192 : mi_PC (12, 176, 161, 2, 0, 1314, 1316, 43, 83, 1317) := ⟨(fun _ => rfl), (fun h => absurd h (by decide)), (fun h => absurd h (by decide)), (fun _ => rfl), (fun _ => rfl), rfl, rfl, rfl, (by decide +kernel), rfl, (by decide), (by decide), (fun h => absurd h (by decide))⟩
set_option maxRecDepth 100000 in
theorem mi_pc193 : mi_PC (13, 31, 163, 2, 0, 1318, 1319, 1320, 83, 1321) := ⟨(fun _ => rfl), (fun h => absurd h (by decide)), (fun h => absurd h (by decide)), (fun _ => rfl), (fun _ => rfl), rfl, rfl, rfl, (by decide +kernel), rfl, (by decide), (by decide), (fun h => absurd h (by decide))⟩
set_option maxRecDepth 100000 in
theorem mi_pc194 : mi_PC (13, 38, 164, 3, 0, 1322, 1323, 1324, 83, 1325) := ⟨(fun _ => rfl), (fun h => absurd h (by decide)), (fun h => absurd h (by decide)), (fun _ => rfl), (fun _ => rfl), rfl, rfl, rfl, (by decide +kernel), rfl, (by decide), (by decide), (fun h => absurd h (by decide))⟩
set_option maxRecDepth 100000 in
theorem mi_pc195 : mi_PC (13, 43, 165, 1, 0, 1328, 1329, 1330, 83, 1331) := ⟨(fun _ => rfl), (fun h => absurd h (by decide)), (fun h => absurd h (by decide)), (fun _ => rfl), (fun _ => rfl), rfl, rfl, rfl, (by decide +kernel), rfl, (by decide), (by decide), (fun h => absurd h (by decide))⟩
set_option maxRecDepth 100000 in
theorem mi_pc196 : mi_PC (13, 48, 173, 3, 0, 1332, 1333, 1334, 83, 1335) := ⟨(fun _ => rfl), (fun h => absurd h (by decide)), (fun h => absurd h (by decide)), (fun _ => rfl), (fun _ => rfl), rfl, rfl, rfl, (by decide +kernel), rfl, (by decide), (by decide), (fun h => absurd h (by decide))⟩
set_option maxRecDepth 100000 in
theorem mi_pc197 : mi_PC (12, 217, 166, 3, 0, 1336, 1338, 44, 83, 1339) := ⟨(fun _ => rfl), (fun h => absurd h (by decide)), (fun h => absurd h (by decide)), (fun _ => rfl), (fun _ => rfl), rfl, rfl, rfl, (by decide +kernel), rfl, (by decide), (by decide), (fun h => absurd h (by decide))⟩
set_option maxRecDepth 100000 in
theorem mi_pc198 : mi_PC (12, 221, 172, 3, 0, 1340, 1342, 45, 83, 1343) := ⟨(fun _ => rfl), (fun h => absurd h (by decide)), (fun h => absurd h (by decide)), (fun _ => rfl), (fun _ => rfl), rfl, rfl, rfl, (by decide +kernel), rfl, (by decide), (by decide), (fun h => absurd h (by decide))⟩
set_option maxRecDepth 100000 in
theorem mi_pc199 : mi_PC (12, 206, 171, 3, 0, 1344, 1346, 46, 83, 1347) := ⟨(fun _ => rfl), (fun h => absurd h (by decide)), (fun h => absurd h (by decide)), (fun _ => rfl), (fun _ => rfl), rfl, rfl, rfl, (by decide +kernel), rfl, (by decide), (by decide), (fun h => absurd h (by decide))⟩
set_option maxRecDepth 100000 in
theorem mi_pc200 : mi_PC (12, 210, 169, 2, 0, 1348, 1350, 47, 83, 1351) := ⟨(fun _ => rfl), (fun h => absurd h (by decide)), (fun h => absurd h (by decide)), (fun _ => rfl), (fun _ => rfl), rfl, rfl, rfl, (by decide +kernel), rfl, (by decide), (by decide), (fun h => absurd h (by decide))⟩
set_option maxRecDepth 100000 in
theorem mi_pc201 : mi_PC (12, 194, 167, 2, 0, 1352, 1354, 48, 83, 1355) := ⟨(fun _ => rfl), (fun h => absurd h (by decide)), (fun h => absurd h (by decide)), (fun _ => rfl), (fun _ => rfl), rfl, rfl, rfl, (by decide +kernel), rfl, (by decide), (by decide), (fun h => absurd h (by decide))⟩
set_option maxRecDepth 100000 in
theorem mi_pc202 : mi_PC (12, 200, 168, 1, 0, 1356, 1358, 49, 83, 1359) := ⟨(fun _ => rfl), (fun h => absurd h (by decide)), (fun h => absurd h (by decide)), (fun _ => rfl), (fun _ => rfl), rfl, rfl, rfl, (by decide +kernel), rfl, (by decide), (by decide), (fun h => absurd h (by decide))⟩
set_option maxRecDepth 100000 in
theorem mi_pc203 : mi_PC (12, 213, 170, 5, 0, 1362, 1364, 50, 83, 1365) := ⟨(fun _ => rfl), (fun h => absurd h (by decide)), (fun h => absurd h (by decide)), (fun _ => rfl), (fun _ => rfl), rfl, rfl, rfl, (by decide +kernel), rfl, (by decide), (by decide), (fun h => absurd h (by decide))⟩
set_option maxRecDepth 100000 in
theorem mi_pc204 : mi_PC (13, 52, 174, 3, 0, 1366, 1367, 1368, 83, 1369) := ⟨(fun _ => rfl), (fun h => absurd h (by decide)), (fun h => absurd h (by decide)), (fun _ => rfl), (fun _ => rfl), rfl, rfl, rfl, (by decide +kernel), rfl, (by decide), (by decide), (fun h => absurd h (by decide))⟩
set_option maxRecDepth 100000 in
theorem mi_pc205 : mi_PC (12, 224, 175, 2, 0, 1370, 1372, 51, 83, 1373) := ⟨(fun _ => rfl), (fun h => absurd h (by decide)), (fun h => absurd h (by decide)), (fun _ => rfl), (fun _ => rfl), rfl, rfl, rfl, (by decide +kernel), rfl, (by decide), (by decide), (fun h => absurd h (by decide))⟩
set_option maxRecDepth 100000 in
theorem mi_pc206 : mi_PC (13, 56, 178, 1, 0, 1374, 1375, 1376, 83, 1377) := ⟨(fun _ => rfl), (fun h => absurd h (by decide)), (fun h => absurd h (by decide)), (fun _ => rfl), (fun _ => rfl), rfl, rfl, rfl, (by decide +kernel), rfl, (by decide), (by decide), (fun h => absurd h (by decide))⟩
set_option maxRecDepth 100000 in
theorem mi_pc207 : mi_PC (12, 227, 177, 2, 0, 1378, 1380, 52, 83, 1381) := ⟨(fun _ => rfl), (fun h => absurd h (by decide)), (fun h => absurd h (by decide)), (fun _ => rfl), (fun _ => rfl), rfl, rfl, rfl, (by decide +kernel), rfl, (by decide), (by decide), (fun h => absurd h (by decide))⟩
set_option maxRecDepth 100000 in
theorem mi_pc208 : mi_PC (12, 230, 176, 4, 0, 1382, 1384, 53, 83, 1385) := ⟨(fun _ => rfl), (fun h => absurd h (by decide)), (fun h => absurd h (by decide)), (fun _ => rfl), (fun _ => rfl), rfl, rfl, rfl, (by decide +kernel), rfl, (by decide), (by decide), (fun h => absurd h (by decide))⟩
set_option maxRecDepth 100000 in
theorem mi_pc209 : mi_PC (13, 60, 179, 1, 0, 1386, 1387, 1388, 83, 1389) := ⟨(fun _ => rfl), (fun h => absurd h (by decide)), (fun h => absurd h (by decide)), (fun _ => rfl), (fun _ => rfl), rfl, rfl, rfl, (by decide +kernel), rfl, (by decide), (by decide), (fun h => absurd h (by decide))⟩
set_option maxRecDepth 100000 in
theorem mi_pc210 : mi_PC (13, 65, 181, 5, 0, 1390, 1391, 1392, 83, 1393) := ⟨(fun _ => rfl), (fun h => absurd h (by decide)), (fun h => absurd h (by decide)), (fun _ => rfl), (fun _ => rfl), rfl, rfl, rfl, (by decide +kernel), rfl, (by decide), (by decide), (fun h => absurd h (by decide))⟩
set_option maxRecDepth 100000 in
theorem mi_pc211 : mi_PC (12, 241, 180, 2, 0, 1395, 1397, 54, 83, 1398) := ⟨(fun _ => rfl), (fun h => absurd h (by decide)), (fun h => absurd h (by decide)), (fun _ => rfl), (fun _ => rfl), rfl, rfl, rfl, (by decide +kernel), rfl, (by decide), (by decide), (fun h => absurd h (by decide))⟩
set_option maxRecDepth 100000 in
theorem mi_pc212 : mi_PC (13, 124, 182, 7, 0, 1400, 1401, 1402, 83, 1403) := ⟨(fun _ => rfl), (fun h => absurd h (by decide)), (fun h => absurd h (by decide)), (fun _ => rfl), (fun _ => rfl), rfl, rfl, rfl, (by decide +kernel), rfl, (by decide), (by decide), (fun h => absurd h (by decide))⟩
set_option maxRecDepth 100000 in
theorem mi_pc213 : mi_PC (13, 69, 183, 1, 0, 1406, 1407, 1408, 83, 1409) := ⟨(fun _ => rfl), (fun h => absurd h (by decide)), (fun h => absurd h (by decide)), (fun _ => rfl), (fun _ => rfl), rfl, rfl, rfl, (by decide +kernel), rfl, (by decide), (by decide), (fun h => absurd h (by decide))⟩
set_option maxRecDepth 100000 in
theorem mi_pc214 : mi_PC (13, 73, 184, 3, 0, 1410, 1411, 1412, 83, 1413) := ⟨(fun _ => rfl), (fun h => absurd h (by decide)), (fun h => absurd h (by decide)), (fun _ => rfl), (fun _ => rfl), rfl, rfl, rfl, (by decide +kernel), rfl, (by decide), (by decide), (fun h => absurd h (by decide))⟩
set_option maxRecDepth 100000 in
theorem mi_pc215 : mi_PC (13, 77, 192, 1, 0, 1415, 1416, 1417, 83, 1418) := ⟨(fun _ => rfl), (fun h => absurd h (by decide)), (fun h => absurd h (by decide)), (fun _ => rfl), (fun _ => rfl), rfl, rfl, rfl, (by decide +kernel), rfl, (by decide), (by decide), (fun h => absurd h (by decide))⟩
set_option maxRecDepth 100000 in
theorem mi_pc216 : mi_PC (12, 313, 191, 1, 0, 1419, 1421, 55, 83, 1422) := ⟨(fun _ => rfl), (fun h => absurd h (by decide)), (fun h => absurd h (by decide)), (fun _ => rfl), (fun _ => rfl), rfl, rfl, rfl, (by decide +kernel), rfl, (by decide), (by decide), (fun h => absurd h (by decide))⟩
set_option maxRecDepth 100000 in
theorem mi_pc217 : mi_PC (12, 310, 189, 2, 0, 1423, 1425, 56, 83, 1426) := ⟨(fun _ => rfl), (fun h => absurd h (by decide)), (fun h => absurd h (by decide)), (fun _ => rfl), (fun _ => rfl), rfl, rfl, rfl, (by decide +kernel), rfl, (by decide), (by decide), (fun h => absurd h (by decide))⟩
set_option maxRecDepth 100000 in
theorem mi_pc218 : mi_PC (12, 273, 186, 1, 0, 1427, 1429, 57, 83, 1430) := ⟨(fun _ => rfl), (fun h => absurd h (by decide)), (fun h => absurd h (by decide)), (fun _ => rfl), (fun _ => rfl), rfl, rfl, rfl, (by decide +kernel), rfl, (by decide), (by decide), (fun h => absurd h (by decide))⟩
set_option maxRecDepth 100000 in
theorem mi_pc219 : mi_PC (12, 265, 185, 1, 0, 1431, 1433, 58, 83, 1434) := ⟨(fun _ => rfl), (fun h => absurd h (by decide)), (fun h => absurd h (by decide)), (fun _ => rfl), (fun _ => rfl), rfl, rfl, rfl, (by decide +kernel), rfl, (by decide), (by decide), (fun h => absurd h (by decide))⟩
set_option maxRecDepth 100000 in
theorem mi_pc220 : mi_PC (12, 277, 187, 1, 0, 1437, 1439, 59, 83, 1440) := ⟨(fun _ => rfl), (fun h => absurd h (by decide)), (fun h => absurd h (by decide)), (fun _ => rfl), (fun _ => rfl), rfl, rfl, rfl, (by decide +kernel), rfl, (by decide), (by decide), (fun h => absurd h (by decide))⟩
set_option maxRecDepth 100000 in
theorem mi_pc221 : mi_PC (12, 280, 188, 1, 0, 1441, 1443, 60, 83, 1444) := ⟨(fun _ => rfl), (fun h => absurd h (by decide)), (fun h => absurd h (by decide)), (fun _ => rfl), (fun _ => rfl), rfl, rfl, rfl, (by decide +kernel), rfl, (by decide), (by decide), (fun h => absurd h (by decide))⟩
set_option maxRecDepth 100000 in
theorem mi_pc222 : mi_PC (12, 283, 159, 5, 0, 1445, 1262, 1263, 83, 1264) := ⟨(fun _ => rfl), (fun h => absurd h (by decide)), (fun h => absurd h (by decide)), (fun _ => rfl), (fun _ => rfl), rfl, rfl, rfl, (by decide +kernel), rfl, (by decide), (by decide), (fun h => absurd h (by decide))⟩
set_option maxRecDepth 100000 in
theorem mi_pc223 : mi_PC (12, 287, 160, 3, 0, 1446, 1307, 1308, 83, 1309) := ⟨(fun _ => rfl), (fun h => absurd h (by decide)), (fun h => absurd h (by decide)), (fun _ => rfl), (fun _ => rfl), rfl, rfl, rfl, (by decide +kernel), rfl, (by decide), (by decide), (fun h => absurd h (by decide))⟩
set_option maxRecDepth 100000 in
theorem mi_pc224 : mi_PC (12, 291, 162, 2, 0, 1447, 1311, 1312, 83, 1313) := ⟨(fun _ => rfl), (fun h => absurd h (by decide)), (fun h => absurd h (by decide)), (fun _ => rfl), (fun _ => rfl), rfl, rfl, rfl, (by decide +kernel), rfl, (by decide), (by decide), (fun h => absurd h (by decide))⟩
set_option maxRecDepth 100000 in
theorem mi_pc225 : mi_PC (12, 294, 163, 2, 0, 1448, 1319, 1320, 83, 1321) := ⟨(fun _ => rfl), (fun h => absurd h (by decide)), (fun h => absurd h (by decide)), (fun _ => rfl), (fun _ => rfl), rfl, rfl, rfl, (by decide +kernel), rfl, (by decide), (by decide), (fun h => absurd h (by decide))⟩
set_option maxRecDepth 100000 in
theorem mi_pc226 : mi_PC (12, 296, 190, 1, 0, 1449, 1451, 61, 83, 1452) := ⟨(fun _ => rfl), (fun h => absurd h (by decide)), (fun h => absurd h (by decide)), (fun _ => rfl), (fun _ => rfl), rfl, rfl, rfl, (by decide +kernel), rfl, (by decide), (by decide), (fun h => absurd h (by decide))⟩
set_option maxRecDepth 100000 in
theorem mi_pc227 : mi_PC (12, 299, 174, 3, 0, 1454, 1367, 1368, 83, 1369) := ⟨(fun _ => rfl), (fun h => absurd h (by decide)), (fun h => absurd h (by decide)), (fun _ => rfl), (fun _ => rfl), rfl, rfl, rfl, (by decide +kernel), rfl, (by decide), (by decide), (fun h => absurd h (by decide))⟩
set_option maxRecDepth 100000 in
theorem mi_pc228 : mi_PC (12, 302, 178, 1, 0, 1455, 1375, 1376, 83, 1377) := ⟨(fun _ => rfl), (fun h => absurd h (by decide)), (fun h => absurd h (by decide)), (fun _ => rfl), (fun _ => rfl), rfl, rfl, rfl, (by decide +kernel), rfl, (by decide), (by decide), (fun h => absurd h (by decide))⟩
set_option maxRecDepth 100000 in
theorem mi_pc229 : mi_PC (12, 305, 179, 1, 0, 1456, 1387, 1388, 83, 1389) := ⟨(fun _ => rfl), (fun h => absurd h (by decide)), (fun h => absurd h (by decide)), (fun _ => rfl), (fun _ => rfl), rfl, rfl, rfl, (by decide +kernel), rfl, (by decide), (by decide), (fun h => absurd h (by decide))⟩
set_option maxRecDepth 100000 in
theorem mi_pc230 : mi_PC (13, 81, 193, 2, 0, 1457, 1458, 1459, 83, 1460) := ⟨(fun _ => rfl), (fun h => absurd h (by decide)), (fun h => absurd h (by decide)), (fun _ => rfl), (fun _ => rfl), rfl, rfl, rfl, (by decide +kernel), rfl, (by decide), (by decide), (fun h => absurd h (by decide))⟩
set_option maxRecDepth 100000 in
theorem mi_pc231 : mi_PC (13, 85, 194, 3, 0, 1461, 1462, 1463, 83, 1464) := ⟨(fun _ => rfl), (fun h => absurd h (by decide)), (fun h => absurd h (by decide)), (fun _ => rfl), (fun _ => rfl), rfl, rfl, rfl, (by decide +kernel), rfl, (by decide), (by decide), (fun h => absurd h (by decide))⟩
set_option maxRecDepth 100000 in
theorem mi_pc232 : mi_PC (13, 90, 197, 2, 0, 1465, 1466, 1467, 83, 1468) := ⟨(fun _ => rfl), (fun h => absurd h (by decide)), (fun h => absurd h (by decide)), (fun _ => rfl), (fun _ => rfl), rfl, rfl, rfl, (by decide +kernel), rfl, (by decide), (by decide), (fun h => absurd h (by decide))⟩
set_option maxRecDepth 100000 in
theorem mi_pc233 : mi_PC (12, 320, 196, 2, 0, 1469, 1471, 62, 83, 1472) := ⟨(fun _ => rfl), (fun h => absurd h (by decide)), (fun h => absurd h (by decide)), (fun _ => rfl), (fun _ => rfl), rfl, rfl, rfl, (by decide +kernel), rfl, (by decide), (by decide), (fun h => absurd h (by decide))⟩
set_option maxRecDepth 100000 in
theorem mi_pc234 : mi_PC (12, 316, 195, 3, 0, 1473, 1475, 63, 83, 1476) := ⟨(fun _ => rfl), (fun h => absurd h (by decide)), (fun h => absurd h (by decide)), (fun _ => rfl), (fun _ => rfl), rfl, rfl, rfl, (by decide +kernel), rfl, (by decide), (by decide), (fun h => absurd h (by decide))⟩
set_option maxRecDepth 100000 in
theorem mi_pc235 : mi_PC (13, 95, 198, 4, 0, 1477, 1478, 1479, 83, 1480) := ⟨(fun _ => rfl), (fun h => absurd h (by decide)), (fun h => absurd h (by decide)), (fun _ => rfl), (fun _ => rfl), rfl, rfl, rfl, (by decide +kernel), rfl, (by decide), (by decide), (fun h => absurd h (by decide))⟩
set_option maxRecDepth 100000 in
theorem mi_pc236 : mi_PC (13, 99, 199, 3, 0, 1481, 1482, 1483, 83, 1484) := ⟨(fun _ => rfl), (fun h => absurd h (by decide)), (fun h => absurd h (by decide)), (fun _ => rfl), (fun _ => rfl), rfl, rfl, rfl, (by decide +kernel), rfl, (by decide), (by decide), (fun h => absurd h (by decide))⟩
set_option maxRecDepth 100000 in
theorem mi_pc237 : mi_PC (13, 103, 200, 4, 0, 1485, 1486, 1487, 83, 1488) := ⟨(fun _ => rfl), (fun h => absurd h (by decide)), (fun h => absurd h (by decide)), (fun _ => rfl), (fun _ => rfl), rfl, rfl, rfl, (by decide +kernel), rfl, (by decide), (by decide), (fun h => absurd h (by decide))⟩
set_option maxRecDepth 100000 in
theorem mi_pc238 : mi_PC (13, 107, 201, 4, 0, 1489, 1490, 1491, 83, 1492) := ⟨(fun _ => rfl), (fun h => absurd h (by decide)), (fun h => absurd h (by decide)), (fun _ => rfl), (fun _ => rfl), rfl, rfl, rfl, (by decide +kernel), rfl, (by decide), (by decide), (fun h => absurd h (by decide))⟩
set_option maxRecDepth 100000 in
theorem mi_pc239 : mi_PC (13, 111, 202, 3, 0, 1493, 1494, 1495, 83, 1496) := ⟨(fun _ => rfl), (fun h => absurd h (by decide)), (fun h => absurd h (by decide)), (fun _ => rfl), (fun _ => rfl), rfl, rfl, rfl, (by decide +kernel), rfl, (by decide), (by decide), (fun h => absurd h (by decide))⟩
set_option maxRecDepth 100000 in
theorem mi_pc240 : mi_PC (13, 115, 209, 2, 0, 1497, 1498, 1499, 83, 1500) := ⟨(fun _ => rfl), (fun h => absurd h (by decide)), (fun h => absurd h (by decide)), (fun _ => rfl), (fun _ => rfl), rfl, rfl, rfl, (by decide +kernel), rfl, (by decide), (by decide), (fun h => absurd h (by decide))⟩
set_option maxRecDepth 100000 in
theorem mi_pc241 : mi_PC (12, 332, 205, 2, 0, 1501, 1503, 64, 83, 1504) := ⟨(fun _ => rfl), (fun h => absurd h (by decide)), (fun h => absurd h (by decide)), (fun _ => rfl), (fun _ => rfl), rfl, rfl, rfl, (by decide +kernel), rfl, (by decide), (by decide), (fun h => absurd h (by decide))⟩
set_option maxRecDepth 100000 in
theorem mi_pc242 : mi_PC (12, 324, 203, 2, 0, 1505, 1507, 65, 83, 1508) := ⟨(fun _ => rfl), (fun h => absurd h (by decide)), (fun h => absurd h (by decide)), (fun _ => rfl), (fun _ => rfl), rfl, rfl, rfl, (by decide +kernel), rfl, (by decide), (by decide), (fun h => absurd h (by decide))⟩
set_option maxRecDepth 100000 in
theorem mi_pc243 : mi_PC (12, 329, 204, 2, 0, 1509, 1511, 66, 83, 1512) := ⟨(fun _ => rfl), (fun h => absurd h (by decide)), (fun h => absurd h (by decide)), (fun _ => rfl), (fun _ => rfl), rfl, rfl, rfl, (by decide +kernel), rfl, (by decide), (by decide), (fun h => absurd h (by decide))⟩
set_option maxRecDepth 100000 in
theorem mi_pc244 : mi_PC (12, 338, 206, 1, 0, 1514, 1516, 67, 83, 1517) := ⟨(fun _ => rfl), (fun h => absurd h (by decide)), (fun h => absurd h (by decide)), (fun _ => rfl), (fun _ => rfl), rfl, rfl, rfl, (by decide +kernel), rfl, (by decide), (by decide), (fun h => absurd h (by decide))⟩
set_option maxRecDepth 100000 in
theorem mi_pc245 : mi_PC (12, 341, 208, 3, 0, 1518, 1520, 68, 83, 1521) := ⟨(fun _ => rfl), (fun h => absurd h (by decide)), (fun h => absurd h (by decide)), (fun _ => rfl), (fun _ => rfl), rfl, rfl, rfl, (by decide +kernel), rfl, (by decide), (by decide), (fun h => absurd h (by decide))⟩
set_option maxRecDepth 100000 in
theorem mi_pc246 : mi_PC (12, 335, 207, 2, 0, 1522, 1524, 69, 83, 1525) := ⟨(fun _ => rfl), (fun h => absurd h (by decide)), (fun h => absurd h (by decide)), (fun _ => rfl), (fun _ => rfl), rfl, rfl, rfl, (by decide +kernel), rfl, (by decide), (by decide), (fun h => absurd h (by decide))⟩
set_option maxRecDepth 100000 in
theorem mi_pc247 : mi_PC (13, 119, 210, 2, 0, 1526, 1527, 1528, 83, 1529) := ⟨(fun _ => rfl), (fun h => absurd h (by decide)), (fun h => absurd h (by decide)), (fun _ => rfl), (fun _ => rfl), rfl, rfl, rfl, (by decide +kernel), rfl, (by decide), (by decide), (fun h => absurd h (by decide))⟩
set_option maxRecDepth 100000 in
theorem mi_pc248 : mi_PC (13, 128, 211, 2, 0, 1530, 1531, 1532, 83, 1533) := ⟨(fun _ => rfl), (fun h => absurd h (by decide)), (fun h => absurd h (by decide)), (fun _ => rfl), (fun _ => rfl), rfl, rfl, rfl, (by decide +kernel), rfl, (by decide), (by decide), (fun h => absurd h (by decide))⟩
set_option maxRecDepth 100000 in
theorem mi_pc249 : mi_PC (11, 9, 15, 1, 3, 97, 98, 0, 72, 99) := ⟨(fun h => absurd h (by decide)), (fun _ => rfl), (fun h => absurd h (by decide)), (fun _ => rfl), (fun h => absurd h (by decide)), rfl, rfl, rfl, (by decide +kernel), rfl, (by decide), (by decide), (fun _ => ⟨rfl, rfl⟩)⟩
set_option maxRecDepth 100000 in
theorem mi_pc250 : mi_PC (1, 11, 0, 1, 3, 103, 104, 0, 73, 105) := ⟨(fun h => absurd h (by decide)), (fun _ => rfl), (fun h => absurd h (by decide)), (fun _ => rfl), (fun h => absurd h (by decide)), rfl, rfl, rfl, (by decide +kernel), rfl, (by decide), (by decide), (fun _ => ⟨rfl, rfl⟩)⟩
set_option maxRecDepth 100000 in
theorem mi_pc251 : mi_PC (1, 20, 70, 1, 3, 182, 183, 0, 76, 184) := ⟨(fun h => absurd h (by decide)), (fun _ => rfl), (fun h => absurd h (by decide)), (fun _ => rfl), (fun h => absurd h (by decide)), rfl, rfl, rfl, (by decide +kernel), rfl, (by decide), (by decide), (fun _ => ⟨rfl, rfl⟩)⟩
set_option maxRecDepth 100000 in
theorem mi_pc252 : mi_PC (1, 27, 37, 1, 3, 207, 208, 0, 77, 209) := ⟨(fun h => absurd h (by decide)), (fun _ => rfl), (fun h => absurd h (by decide)), (fun _ => rfl), (fun h => absurd h (by decide)), rfl, rfl, rfl, (by decide +kernel), rfl, (by decide), (by decide), (fun _ => ⟨rfl, rfl⟩)⟩
set_option maxRecDepth 100000 in
theorem mi_pc253 : mi_PC (11, 18, 51, 1, 3, 281, 282, 0, 78, 283) := ⟨(fun h => absurd h (by decide)), (fun _ => rfl), (fun h => absurd h (by decide)), (fun _ => rfl), (fun h => absurd h (by decide)), rfl, rfl, rfl, (by decide +kernel), rfl, (by decide), (by decide), (fun _ => ⟨rfl, rfl⟩)⟩
set_option maxRecDepth 100000 in
theorem mi_pc254 : mi_PC (11, 46, 98, 1, 3, 372, 373, 0, 81, 374) := ⟨(fun h => absurd h (by decide)), (fun _ => rfl), (fun h => absurd h (by decide)), (fun _ => rfl), (fun h => absurd h (by decide)), rfl, rfl, rfl, (by decide +kernel), rfl, (by decide), (by decide), (fun _ => ⟨rfl, rfl⟩)⟩
set_option maxRecDepth 100000 in
theorem mi_pc255 : mi_PC (1, 85, 147, 1, 4, 601, 602, 0, 71, 603) := ⟨(fun h => absurd h (by decide)), (fun _ => rfl), (fun _ => rfl), (fun h => absurd h (by decide)), (fun h => absurd h (by decide)), rfl, rfl, rfl, (by decide +kernel), rfl, (by decide), (by decide), (fun h => absurd h (by decide))⟩
set_option maxRecDepth 100000 in
theorem mi_pc256 : mi_PC (1, 132, 148, 2, 4, 673, 606, 0, 71, 607) := ⟨(fun h => absurd h (by decide)), (fun _ => rfl), (fun _ => rfl), (fun h => absurd h (by decide)), (fun h => absurd h (by decide)), rfl, rfl, rfl, (by decide +kernel), rfl, (by decide), (by decide), (fun h => absurd h (by decide))⟩
set_option maxRecDepth 100000 in
theorem mi_tC_ok : ∀ e ∈ mi_tC, mi_PC e := List.forall_mem_cons.mpr ⟨mi_pc0, List.forall_mem_cons.mpr ⟨mi_pc1, List.forall_mem_cons.mpr ⟨mi_pc2, List.forall_mem_cons.mpr ⟨mi_pc3, List.forall_mem_cons.mpr ⟨mi_pc4, List.forall_mem_cons.mpr ⟨mi_pc5, List.forall_mem_cons.mpr ⟨mi_pc6, List.forall_mem_cons.mpr ⟨mi_pc7, List.forall_mem_cons.mpr ⟨mi_pc8, List.forall_mem_cons.mpr ⟨mi_pc9, List.forall_mem_cons.mpr ⟨mi_pc10, List.forall_mem_cons.mpr ⟨mi_pc11, List.forall_mem_cons.mpr ⟨mi_pc12, List.forall_mem_cons.mpr ⟨mi_pc13, List.forall_mem_cons.mpr ⟨mi_pc14, List.forall_mem_cons.mpr ⟨mi_pc15, List.forall_mem_cons.mpr ⟨mi_pc16, List.forall_mem_cons.mpr ⟨mi_pc17, List.forall_mem_cons.mpr ⟨mi_pc18, List.forall_mem_cons.mpr ⟨mi_pc19, List.forall_mem_cons.mpr ⟨mi_pc20, List.forall_mem_cons.mpr ⟨mi_pc21, List.forall_mem_cons.mpr ⟨mi_pc22, List.forall_mem_cons.mpr ⟨mi_pc23, List.forall_mem_cons.mpr ⟨mi_pc24, List.forall_mem_cons.mpr ⟨mi_pc25, List.forall_mem_cons.mpr ⟨mi_pc26, List.forall_mem_cons.mpr ⟨mi_pc27, List.forall_mem_cons.mpr ⟨mi_pc28, List.forall_mem_cons.mpr ⟨mi_pc29, List.forall_mem_cons.mpr ⟨mi_pc30, List.forall_mem_cons.mpr ⟨mi_pc31, List.forall_mem_cons.mpr ⟨mi_pc32, List.forall_mem_cons.mpr ⟨mi_pc33, List.forall_mem_cons.mpr ⟨mi_pc34, List.forall_mem_cons.mpr ⟨mi_pc35, List.forall_mem_cons.mpr ⟨mi_pc36, List.forall_mem_cons.mpr ⟨mi_pc37, List.forall_mem_cons.mpr ⟨mi_pc38, List.forall_mem_cons.mpr ⟨mi_pc39, List.forall_mem_cons.mpr ⟨mi_pc40, List.forall_mem_cons.mpr ⟨mi_pc41, List.forall_mem_cons.mpr ⟨mi_pc42, List.forall_mem_cons.mpr ⟨mi_pc43, List.forall_mem_cons.mpr ⟨mi_pc44, List.forall_mem_cons.mpr ⟨mi_pc45, List.forall_mem_cons.mpr ⟨mi_pc46, List.forall_mem_cons.mpr ⟨mi_pc47, List.forall_mem_cons.mpr ⟨mi_pc48, List.forall_mem_cons.mpr ⟨mi_pc49, List.forall_mem_cons.mpr ⟨mi_pc50, List.forall_mem_cons.mpr ⟨mi_pc51, List.forall_mem_cons.mpr ⟨mi_pc52, List.forall_mem_cons.mpr ⟨mi_pc53, List.forall_mem_cons.mpr ⟨mi_pc54, List.forall_mem_cons.mpr ⟨mi_pc55, List.forall_mem_cons.mpr ⟨mi_pc56, List.forall_mem_cons.mpr ⟨mi_pc57, List.forall_mem_cons.mpr ⟨mi_pc58, List.forall_mem_cons.mpr ⟨mi_pc59, List.forall_mem_cons.mpr ⟨mi_pc60, List.forall_mem_cons.mpr ⟨mi_pc61, List.forall_mem_cons.mpr ⟨mi_pc62, List.forall_mem_cons.mpr ⟨mi_pc63, List.forall_mem_cons.mpr ⟨mi_pc64, List.forall_mem_cons.mpr ⟨mi_pc65, List.forall_mem_cons.mpr ⟨mi_pc66, List.forall_mem_cons.mpr ⟨mi_pc67, List.forall_mem_cons.mpr ⟨mi_pc68, List.forall_mem_cons.mpr ⟨mi_pc69, List.forall_mem_cons.mpr ⟨mi_pc70, List.forall_mem_cons.mpr ⟨mi_pc71, List.forall_mem_cons.mpr ⟨mi_pc72, List.forall_mem_cons.mpr ⟨mi_pc73, List.forall_mem_cons.mpr ⟨mi_pc74, List.forall_mem_cons.mpr ⟨mi_pc75, List.forall_mem_cons.mpr ⟨mi_pc76, List.forall_mem_cons.mpr ⟨mi_pc77, List.forall_mem_cons.mpr ⟨mi_pc78, List.forall_mem_cons.mpr ⟨mi_pc79, List.forall_mem_cons.mpr ⟨mi_pc80, List.forall_mem_cons.mpr ⟨mi_pc81, List.forall_mem_cons.mpr ⟨mi_pc82, List.forall_mem_cons.mpr ⟨mi_pc83, List.forall_mem_cons.mpr ⟨mi_pc84, List.forall_mem_cons.mpr ⟨mi_pc85, List.forall_mem_cons.mpr ⟨mi_pc86, List.forall_mem_cons.mpr ⟨mi_pc87, List.forall_mem_cons.mpr ⟨mi_pc88, List.forall_mem_cons.mpr ⟨mi_pc89, List.forall_mem_cons.mpr ⟨mi_pc90, List.forall_mem_cons.mpr ⟨mi_pc91, List.forall_mem_cons.mpr ⟨mi_pc92, List.forall_mem_cons.mpr ⟨mi_pc93, List.forall_mem_cons.mpr ⟨mi_pc94, List.forall_mem_cons.mpr ⟨mi_pc95, List.forall_mem_cons.mpr ⟨mi_pc96, List.forall_mem_cons.mpr ⟨mi_pc97, List.forall_mem_cons.mpr ⟨mi_pc98, List.forall_mem_cons.mpr ⟨mi_pc99, List.forall_mem_cons.mpr ⟨mi_pc100, List.forall_mem_cons.mpr ⟨mi_pc101, List.forall_mem_cons.mpr ⟨mi_pc102, List.forall_mem_cons.mpr ⟨mi_pc103, List.forall_mem_cons.mpr ⟨mi_pc104, List.forall_mem_cons.mpr ⟨mi_pc105, List.forall_mem_cons.mpr ⟨mi_pc106, List.forall_mem_cons.mpr ⟨mi_pc107, List.forall_mem_cons.mpr ⟨mi_pc108, List.forall_mem_cons.mpr ⟨mi_pc109, List.forall_mem_cons.mpr ⟨mi_pc110, List.forall_mem_cons.mpr ⟨mi_pc111, List.forall_mem_cons.mpr ⟨mi_pc112, List.forall_mem_cons.mpr ⟨mi_pc113, List.forall_mem_cons.mpr ⟨mi_pc114, List.forall_mem_cons.mpr ⟨mi_pc115, List.forall_mem_cons.mpr ⟨mi_pc116, List.forall_mem_cons.mpr ⟨mi_pc117, List.forall_mem_cons.mpr ⟨mi_pc118, List.forall_mem_cons.mpr ⟨mi_pc119, List.forall_mem_cons.mpr ⟨mi_pc120, List.forall_mem_cons.mpr ⟨mi_pc121, List.forall_mem_cons.mpr ⟨mi_pc122, List.forall_mem_cons.mpr ⟨mi_pc123, List.forall_mem_cons.mpr ⟨mi_pc124, List.forall_mem_cons.mpr ⟨mi_pc125, List.forall_mem_cons.mpr ⟨mi_pc126, List.forall_mem_cons.mpr ⟨mi_pc127, List.forall_mem_cons.mpr ⟨mi_pc128, List.forall_mem_cons.mpr ⟨mi_pc129, List.forall_mem_cons.mpr ⟨mi_pc130, List.forall_mem_cons.mpr ⟨mi_pc131, List.forall_mem_cons.mpr ⟨mi_pc132, List.forall_mem_cons.mpr ⟨mi_pc133, List.forall_mem_cons.mpr ⟨mi_pc134, List.forall_mem_cons.mpr ⟨mi_pc135, List.forall_mem_cons.mpr ⟨mi_pc136, List.forall_mem_cons.mpr ⟨mi_pc137, List.forall_mem_cons.mpr ⟨mi_pc138, List.forall_mem_cons.mpr ⟨mi_pc139, List.forall_mem_cons.mpr ⟨mi_pc140, List.forall_mem_cons.mpr ⟨mi_pc141, List.forall_mem_cons.mpr ⟨mi_pc142, List.forall_mem_cons.mpr ⟨mi_pc143, List.forall_mem_cons.mpr ⟨mi_pc144, List.forall_mem_cons.mpr ⟨mi_pc145, List.forall_mem_cons.mpr ⟨mi_pc146, List.forall_mem_cons.mpr ⟨mi_pc147, List.forall_mem_cons.mpr ⟨mi_pc148, List.forall_mem_cons.mpr ⟨mi_pc149, List.forall_mem_cons.mpr ⟨mi_pc150, List.forall_mem_cons.mpr ⟨mi_pc151, List.forall_mem_cons.mpr ⟨mi_pc152, List.forall_mem_cons.mpr ⟨mi_pc153, List.forall_mem_cons.mpr ⟨mi_pc154, List.forall_mem_cons.mpr ⟨mi_pc155, List.forall_mem_cons.mpr ⟨mi_pc156, List.forall_mem_cons.mpr ⟨mi_pc157, List.forall_mem_cons.mpr ⟨mi_pc158, List.forall_mem_cons.mpr ⟨mi_pc159, List.forall_mem_cons.mpr ⟨mi_pc160, List.forall_mem_cons.mpr ⟨mi_pc161, List.forall_mem_cons.mpr ⟨mi_pc162, List.forall_mem_cons.mpr ⟨mi_pc163, List.forall_mem_cons.mpr ⟨mi_pc164, List.forall_mem_cons.mpr ⟨mi_pc165, List.forall_mem_cons.mpr ⟨mi_pc166, List.forall_mem_cons.mpr ⟨mi_pc167, List.forall_mem_cons.mpr ⟨mi_pc168, List.forall_mem_cons.mpr ⟨mi_pc169, List.forall_mem_cons.mpr ⟨mi_pc170, List.forall_mem_cons.mpr ⟨mi_pc171, List.forall_mem_cons.mpr ⟨mi_pc172, List.forall_mem_cons.mpr ⟨mi_pc173, List.forall_mem_cons.mpr ⟨mi_pc174, List.forall_mem_cons.mpr ⟨mi_pc175, List.forall_mem_cons.mpr ⟨mi_pc176, List.forall_mem_cons.mpr ⟨mi_pc177, List.forall_mem_cons.mpr ⟨mi_pc178, List.forall_mem_cons.mpr ⟨mi_pc179, List.forall_mem_cons.mpr ⟨mi_pc180, List.forall_mem_cons.mpr ⟨mi_pc181, List.forall_mem_cons.mpr ⟨mi_pc182, List.forall_mem_cons.mpr ⟨mi_pc183, List.forall_mem_cons.mpr ⟨mi_pc184, List.forall_mem_cons.mpr ⟨mi_pc185, List.forall_mem_cons.mpr ⟨mi_pc186, List.forall_mem_cons.mpr ⟨mi_pc187, List.forall_mem_cons.mpr ⟨mi_pc188, List.forall_mem_cons.mpr ⟨mi_pc189, List.forall_mem_cons.mpr ⟨mi_pc190, List.forall_mem_cons.mpr ⟨mi_pc191, List.forall_mem_cons.mpr ⟨mi_pc192, List.forall_mem_cons.mpr ⟨mi_pc193, List.forall_mem_cons.mpr ⟨mi_pc194, List.forall_mem_cons.mpr ⟨mi_pc195, List.forall_mem_cons.mpr ⟨mi_pc196, List.forall_mem_cons.mpr ⟨mi_pc197, List.forall_mem_cons.mpr ⟨mi_pc198, List.forall_mem_cons.mpr ⟨mi_pc199, List.forall_mem_cons.mpr ⟨mi_pc200, List.forall_mem_cons.mpr ⟨mi_pc201, List.forall_mem_cons.mpr ⟨mi_pc202, List.forall_mem_cons.mpr ⟨mi_pc203, List.forall_mem_cons.mpr ⟨mi_pc204, List.forall_mem_cons.mpr ⟨mi_pc205, List.forall_mem_cons.mpr ⟨mi_pc206, List.forall_mem_cons.mpr ⟨mi_pc207, List.forall_mem_cons.mpr ⟨mi_pc208, List.forall_mem_cons.mpr ⟨mi_pc209, List.forall_mem_cons.mpr ⟨mi_pc210, List.forall_mem_cons.mpr ⟨mi_pc211, List.forall_mem_cons.mpr ⟨mi_pc212, List.forall_mem_cons.mpr ⟨mi_pc213, List.forall_mem_cons.mpr ⟨mi_pc214, List.forall_mem_cons.mpr ⟨mi_pc215, List.forall_mem_cons.mpr ⟨mi_pc216, List.forall_mem_cons.mpr ⟨mi_pc217, List.forall_mem_cons.mpr ⟨mi_pc218, List.forall_mem_cons.mpr ⟨mi_pc219, List.forall_mem_cons.mpr ⟨mi_pc220, List.forall_mem_cons.mpr ⟨mi_pc221, List.forall_mem_cons.mpr ⟨mi_pc222, List.forall_mem_cons.mpr ⟨mi_pc223, List.forall_mem_cons.mpr ⟨mi_pc224, List.forall_mem_cons.mpr ⟨mi_pc225, List.forall_mem_cons.mpr ⟨mi_pc226, List.forall_mem_cons.mpr ⟨mi_pc227, List.forall_mem_cons.mpr ⟨mi_pc228, List.forall_mem_cons.mpr ⟨mi_pc229, List.forall_mem_cons.mpr ⟨mi_pc230, List.forall_mem_cons.mpr ⟨mi_pc231, List.forall_mem_cons.mpr ⟨mi_pc232, List.forall_mem_cons.mpr ⟨mi_pc233, List.forall_mem_cons.mpr ⟨mi_pc234, List.forall_mem_cons.mpr ⟨mi_pc235, List.forall_mem_cons.mpr ⟨mi_pc236, List.forall_mem_cons.mpr ⟨mi_pc237, List.forall_mem_cons.mpr ⟨mi_pc238, List.forall_mem_cons.mpr ⟨mi_pc239, List.forall_mem_cons.mpr ⟨mi_pc240, List.forall_mem_cons.mpr ⟨mi_pc241, List.forall_mem_cons.mpr ⟨mi_pc242, List.forall_mem_cons.mpr ⟨mi_pc243, List.forall_mem_cons.mpr ⟨mi_pc244, List.forall_mem_cons.mpr ⟨mi_pc245, List.forall_mem_cons.mpr ⟨mi_pc246, List.forall_mem_cons.mpr ⟨mi_pc247, List.forall_mem_cons.mpr ⟨mi_pc248, List.forall_mem_cons.mpr ⟨mi_pc249, List.forall_mem_cons.mpr ⟨mi_pc250, List.forall_mem_cons.mpr ⟨mi_pc251, List.forall_mem_cons.mpr ⟨mi_pc252, List.forall_mem_cons.mpr ⟨mi_pc253, List.forall_mem_cons.mpr ⟨mi_pc254, List.forall_mem_cons.mpr ⟨mi_pc255, List.forall_mem_cons.mpr ⟨mi_pc256, fun _ h => absurd h List.not_mem_nil⟩⟩⟩⟩⟩⟩⟩⟩⟩⟩⟩⟩⟩⟩⟩⟩⟩⟩⟩⟩⟩⟩⟩⟩⟩⟩⟩⟩⟩⟩⟩⟩⟩⟩⟩⟩⟩⟩⟩⟩⟩⟩⟩⟩⟩⟩⟩⟩⟩⟩⟩⟩⟩⟩⟩⟩⟩⟩⟩⟩⟩⟩⟩⟩⟩⟩⟩⟩⟩⟩⟩⟩⟩⟩⟩⟩⟩⟩⟩⟩⟩⟩⟩⟩⟩⟩⟩⟩⟩⟩⟩⟩⟩⟩⟩⟩⟩⟩⟩⟩⟩⟩⟩⟩⟩⟩⟩⟩⟩⟩⟩⟩⟩⟩⟩⟩⟩⟩⟩⟩⟩⟩⟩⟩⟩⟩⟩⟩⟩⟩⟩⟩⟩⟩⟩⟩⟩⟩⟩⟩⟩⟩⟩⟩⟩⟩⟩⟩⟩⟩⟩⟩⟩⟩⟩⟩⟩⟩⟩⟩⟩⟩⟩⟩⟩⟩⟩⟩⟩⟩⟩⟩⟩⟩⟩⟩⟩⟩⟩⟩⟩⟩⟩⟩⟩⟩⟩⟩⟩⟩⟩⟩⟩⟩⟩⟩⟩⟩⟩⟩⟩⟩⟩⟩⟩⟩⟩⟩⟩⟩⟩⟩⟩⟩⟩⟩⟩⟩⟩⟩⟩⟩⟩⟩⟩⟩⟩⟩⟩⟩⟩⟩⟩⟩⟩⟩⟩⟩⟩⟩⟩⟩⟩⟩⟩⟩⟩⟩⟩⟩⟩⟩⟩⟩⟩⟩⟩
def mi_PF : Nat × Nat × Nat × Nat × Nat → Prop := fun e => match e with
  | (o, i, k, sl, p) => lw_tbl[p]? = some (Cond.fieldLink (mi_RX o) i (mi_T k sl).1 (mi_T k sl).2.1 (mi_T k sl).2.2.1) ∧ sl < mi_n k ∧ k < 13 ∧ (mi_T k sl).1 = mi_RX k ∧ k ≠ 3 ∧ k ≠ 6
set_option maxRecDepth 100000 in
theorem mi_pf0 : mi_PF (0, 14, 0, 0, 135) := ⟨rfl, by decide, by decide, rfl, by decide, by decide⟩
set_option maxRecDepth 100000 in
theorem mi_pf1 : mi_PF (10, 97, 0, 0, 136) := ⟨rfl, by decide, by decide, rfl, by decide, by decide⟩
set_option maxRecDepth 100000 in
theorem mi_pf2 : mi_PF (0, 20, 0, 1, 137) := ⟨rfl, by decide, by decide, rfl, by decide, by decide⟩
set_option maxRecDepth 100000 in
theorem mi_pf3 : mi_PF (10, 73, 0, 1, 138) := ⟨rfl, by decide, by decide, rfl, by decide, by decide⟩
set_option maxRecDepth 100000 in
theorem mi_pf4 : mi_PF (1, 75, 0, 1, 139) := ⟨rfl, by decide, by decide, rfl, by decide, by decide⟩
set_option maxRecDepth 100000 in
theorem mi_pf5 : mi_PF (0, 23, 0, 2, 140) := ⟨rfl, by decide, by decide, rfl, by decide, by decide⟩
set_option maxRecDepth 100000 in
theorem mi_pf6 : mi_PF (10, 70, 0, 2, 141) := ⟨rfl, by decide, by decide, rfl, by decide, by decide⟩
set_option maxRecDepth 100000 in
theorem mi_pf7 : mi_PF (0, 26, 0, 3, 142) := ⟨rfl, by decide, by decide, rfl, by decide, by decide⟩
set_option maxRecDepth 100000 in
theorem mi_pf8 : mi_PF (10, 94, 0, 3, 143) := ⟨rfl, by decide, by decide, rfl, by decide, by decide⟩
set_option maxRecDepth 100000 in
theorem mi_pf9 : mi_PF (0, 29, 0, 4, 144) := ⟨rfl, by decide, by decide, rfl, by decide, by decide⟩
set_option maxRecDepth 100000 in
theorem mi_pf10 : mi_PF (11, 227, 0, 4, 145) := ⟨rfl, by decide, by decide, rfl, by decide, by decide⟩
set_option maxRecDepth 100000 in
theorem mi_pf11 : mi_PF (0, 32, 0, 5, 146) := ⟨rfl, by decide, by decide, rfl, by decide, by decide⟩
set_option maxRecDepth 100000 in
theorem mi_pf12 : mi_PF (10, 47, 0, 5, 147) := ⟨rfl, by decide, by decide, rfl, by decide, by decide⟩
set_option maxRecDepth 100000 in
theorem mi_pf13 : mi_PF (1, 182, 0, 5, 148) := ⟨rfl, by decide, by decide, rfl, by decide, by decide⟩
set_option maxRecDepth 100000 in
theorem mi_pf14 : mi_PF (0, 38, 0, 6, 149) := ⟨rfl, by decide, by decide, rfl, by decide, by decide⟩
set_option maxRecDepth 100000 in
theorem mi_pf15 : mi_PF (10, 58, 0, 6, 150) := ⟨rfl, by decide, by decide, rfl, by decide, by decide⟩
set_option maxRecDepth 100000 in
theorem mi_pf16 : mi_PF (1, 127, 0, 6, 151) := ⟨rfl, by decide, by decide, rfl, by decide, by decide⟩
set_option maxRecDepth 100000 in
theorem mi_pf17 : mi_PF (11, 194, 0, 6, 152) := ⟨rfl, by decide, by decide, rfl, by decide, by decide⟩
set_option maxRecDepth 100000 in
theorem mi_pf18 : mi_PF (0, 42, 0, 7, 153) := ⟨rfl, by decide, by decide, rfl, by decide, by decide⟩
set_option maxRecDepth 100000 in
theorem mi_pf19 : mi_PF (0, 45, 0, 8, 154) := ⟨rfl, by decide, by decide, rfl, by decide, by decide⟩
set_option maxRecDepth 100000 in
theorem mi_pf20 : mi_PF (0, 48, 0, 9, 155) := ⟨rfl, by decide, by decide, rfl, by decide, by decide⟩
set_option maxRecDepth 100000 in
theorem mi_pf21 : mi_PF (1, 61, 0, 9, 156) := ⟨rfl, by decide, by decide, rfl, by decide, by decide⟩
set_option maxRecDepth 100000 in
theorem mi_pf22 : mi_PF (10, 44, 0, 9, 157) := ⟨rfl, by decide, by decide, rfl, by decide, by decide⟩
set_option maxRecDepth 100000 in
theorem mi_pf23 : mi_PF (11, 267, 0, 9, 158) := ⟨rfl, by decide, by decide, rfl, by decide, by decide⟩
set_option maxRecDepth 100000 in
theorem mi_pf24 : mi_PF (7, 14, 7, 0, 188) := ⟨rfl, by decide, by decide, rfl, by decide, by decide⟩
set_option maxRecDepth 100000 in
theorem mi_pf25 : mi_PF (7, 20, 7, 1, 189) := ⟨rfl, by decide, by decide, rfl, by decide, by decide⟩
set_option maxRecDepth 100000 in
theorem mi_pf26 : mi_PF (7, 23, 7, 2, 190) := ⟨rfl, by decide, by decide, rfl, by decide, by decide⟩
set_option maxRecDepth 100000 in
theorem mi_pf27 : mi_PF (1, 74, 7, 2, 191) := ⟨rfl, by decide, by decide, rfl, by decide, by decide⟩
set_option maxRecDepth 100000 in
theorem mi_pf28 : mi_PF (11, 268, 7, 2, 192) := ⟨rfl, by decide, by decide, rfl, by decide, by decide⟩
set_option maxRecDepth 100000 in
theorem mi_pf29 : mi_PF (7, 27, 7, 3, 193) := ⟨rfl, by decide, by decide, rfl, by decide, by decide⟩
set_option maxRecDepth 100000 in
theorem mi_pf30 : mi_PF (1, 99, 7, 3, 194) := ⟨rfl, by decide, by decide, rfl, by decide, by decide⟩
set_option maxRecDepth 100000 in
theorem mi_pf31 : mi_PF (11, 269, 7, 3, 195) := ⟨rfl, by decide, by decide, rfl, by decide, by decide⟩
set_option maxRecDepth 100000 in
theorem mi_pf32 : mi_PF (2, 14, 2, 0, 215) := ⟨rfl, by decide, by decide, rfl, by decide, by decide⟩
set_option maxRecDepth 100000 in
theorem mi_pf33 : mi_PF (2, 20, 2, 1, 216) := ⟨rfl, by decide, by decide, rfl, by decide, by decide⟩
set_option maxRecDepth 100000 in
theorem mi_pf34 : mi_PF (1, 158, 2, 1, 217) := ⟨rfl, by decide, by decide, rfl, by decide, by decide⟩
set_option maxRecDepth 100000 in
theorem mi_pf35 : mi_PF (2, 23, 2, 2, 218) := ⟨rfl, by decide, by decide, rfl, by decide, by decide⟩
set_option maxRecDepth 100000 in
theorem mi_pf36 : mi_PF (1, 144, 2, 2, 219) := ⟨rfl, by decide, by decide, rfl, by decide, by decide⟩
set_option maxRecDepth 100000 in
theorem mi_pf37 : mi_PF (2, 26, 2, 3, 220) := ⟨rfl, by decide, by decide, rfl, by decide, by decide⟩
set_option maxRecDepth 100000 in
theorem mi_pf38 : mi_PF (11, 214, 2, 3, 221) := ⟨rfl, by decide, by decide, rfl, by decide, by decide⟩
set_option maxRecDepth 100000 in
theorem mi_pf39 : mi_PF (2, 29, 2, 4, 222) := ⟨rfl, by decide, by decide, rfl, by decide, by decide⟩
set_option maxRecDepth 100000 in
theorem mi_pf40 : mi_PF (1, 147, 2, 4, 223) := ⟨rfl, by decide, by decide, rfl, by decide, by decide⟩
set_option maxRecDepth 100000 in
theorem mi_pf41 : mi_PF (2, 32, 2, 5, 224) := ⟨rfl, by decide, by decide, rfl, by decide, by decide⟩
set_option maxRecDepth 100000 in
theorem mi_pf42 : mi_PF (2, 35, 2, 6, 225) := ⟨rfl, by decide, by decide, rfl, by decide, by decide⟩
set_option maxRecDepth 100000 in
theorem mi_pf43 : mi_PF (2, 38, 2, 7, 226) := ⟨rfl, by decide, by decide, rfl, by decide, by decide⟩
set_option maxRecDepth 100000 in
theorem mi_pf44 : mi_PF (2, 44, 2, 8, 227) := ⟨rfl, by decide, by decide, rfl, by decide, by decide⟩
set_option maxRecDepth 100000 in
theorem mi_pf45 : mi_PF (2, 48, 2, 9, 228) := ⟨rfl, by decide, by decide, rfl, by decide, by decide⟩
set_option maxRecDepth 100000 in
theorem mi_pf46 : mi_PF (1, 113, 2, 9, 229) := ⟨rfl, by decide, by decide, rfl, by decide, by decide⟩
set_option maxRecDepth 100000 in
theorem mi_pf47 : mi_PF (11, 272, 2, 9, 230) := ⟨rfl, by decide, by decide, rfl, by decide, by decide⟩
set_option maxRecDepth 100000 in
theorem mi_pf48 : mi_PF (2, 52, 2, 10, 231) := ⟨rfl, by decide, by decide, rfl, by decide, by decide⟩
set_option maxRecDepth 100000 in
theorem mi_pf49 : mi_PF (1, 12, 1, 0, 257) := ⟨rfl, by decide, by decide, rfl, by decide, by decide⟩
set_option maxRecDepth 100000 in
theorem mi_pf50 : mi_PF (11, 53, 1, 0, 258) := ⟨rfl, by decide, by decide, rfl, by decide, by decide⟩
set_option maxRecDepth 100000 in
theorem mi_pf51 : mi_PF (8, 105, 1, 0, 259) := ⟨rfl, by decide, by decide, rfl, by decide, by decide⟩
set_option maxRecDepth 100000 in
theorem mi_pf52 : mi_PF (1, 21, 1, 1, 260) := ⟨rfl, by decide, by decide, rfl, by decide, by decide⟩
set_option maxRecDepth 100000 in
theorem mi_pf53 : mi_PF (11, 101, 1, 1, 261) := ⟨rfl, by decide, by decide, rfl, by decide, by decide⟩
set_option maxRecDepth 100000 in
theorem mi_pf54 : mi_PF (8, 126, 1, 1, 262) := ⟨rfl, by decide, by decide, rfl, by decide, by decide⟩
set_option maxRecDepth 100000 in
theorem mi_pf55 : mi_PF (1, 28, 1, 2, 263) := ⟨rfl, by decide, by decide, rfl, by decide, by decide⟩
set_option maxRecDepth 100000 in
theorem mi_pf56 : mi_PF (11, 206, 1, 2, 264) := ⟨rfl, by decide, by decide, rfl, by decide, by decide⟩
set_option maxRecDepth 100000 in
theorem mi_pf57 : mi_PF (1, 32, 1, 3, 265) := ⟨rfl, by decide, by decide, rfl, by decide, by decide⟩
set_option maxRecDepth 100000 in
theorem mi_pf58 : mi_PF (11, 273, 1, 3, 266) := ⟨rfl, by decide, by decide, rfl, by decide, by decide⟩
set_option maxRecDepth 100000 in
theorem mi_pf59 : mi_PF (1, 41, 1, 4, 267) := ⟨rfl, by decide, by decide, rfl, by decide, by decide⟩
set_option maxRecDepth 100000 in
theorem mi_pf60 : mi_PF (4, 14, 4, 0, 287) := ⟨rfl, by decide, by decide, rfl, by decide, by decide⟩
set_option maxRecDepth 100000 in
theorem mi_pf61 : mi_PF (8, 58, 4, 0, 288) := ⟨rfl, by decide, by decide, rfl, by decide, by decide⟩
set_option maxRecDepth 100000 in
theorem mi_pf62 : mi_PF (11, 175, 4, 0, 289) := ⟨rfl, by decide, by decide, rfl, by decide, by decide⟩
set_option maxRecDepth 100000 in
theorem mi_pf63 : mi_PF (4, 20, 4, 1, 290) := ⟨rfl, by decide, by decide, rfl, by decide, by decide⟩
set_option maxRecDepth 100000 in
theorem mi_pf64 : mi_PF (4, 27, 4, 2, 291) := ⟨rfl, by decide, by decide, rfl, by decide, by decide⟩
set_option maxRecDepth 100000 in
theorem mi_pf65 : mi_PF (4, 23, 4, 3, 292) := ⟨rfl, by decide, by decide, rfl, by decide, by decide⟩
set_option maxRecDepth 100000 in
theorem mi_pf66 : mi_PF (4, 36, 4, 4, 293) := ⟨rfl, by decide, by decide, rfl, by decide, by decide⟩
set_option maxRecDepth 100000 in
theorem mi_pf67 : mi_PF (11, 168, 4, 4, 294) := ⟨rfl, by decide, by decide, rfl, by decide, by decide⟩
set_option maxRecDepth 100000 in
theorem mi_pf68 : mi_PF (4, 54, 4, 5, 295) := ⟨rfl, by decide, by decide, rfl, by decide, by decide⟩
set_option maxRecDepth 100000 in
theorem mi_pf69 : mi_PF (11, 261, 4, 5, 296) := ⟨rfl, by decide, by decide, rfl, by decide, by decide⟩
set_option maxRecDepth 100000 in
theorem mi_pf70 : mi_PF (4, 49, 4, 6, 297) := ⟨rfl, by decide, by decide, rfl, by decide, by decide⟩
set_option maxRecDepth 100000 in
theorem mi_pf71 : mi_PF (11, 172, 4, 6, 298) := ⟨rfl, by decide, by decide, rfl, by decide, by decide⟩
set_option maxRecDepth 100000 in
theorem mi_pf72 : mi_PF (5, 12, 5, 0, 330) := ⟨rfl, by decide, by decide, rfl, by decide, by decide⟩
set_option maxRecDepth 100000 in
theorem mi_pf73 : mi_PF (2, 62, 5, 0, 331) := ⟨rfl, by decide, by decide, rfl, by decide, by decide⟩
set_option maxRecDepth 100000 in
theorem mi_pf74 : mi_PF (1, 114, 5, 0, 332) := ⟨rfl, by decide, by decide, rfl, by decide, by decide⟩
set_option maxRecDepth 100000 in
theorem mi_pf75 : mi_PF (11, 280, 5, 0, 333) := ⟨rfl, by decide, by decide, rfl, by decide, by decide⟩
set_option maxRecDepth 100000 in
theorem mi_pf76 : mi_PF (5, 21, 5, 1, 334) := ⟨rfl, by decide, by decide, rfl, by decide, by decide⟩
set_option maxRecDepth 100000 in
theorem mi_pf77 : mi_PF (2, 69, 5, 1, 335) := ⟨rfl, by decide, by decide, rfl, by decide, by decide⟩
set_option maxRecDepth 100000 in
theorem mi_pf78 : mi_PF (1, 117, 5, 1, 336) := ⟨rfl, by decide, by decide, rfl, by decide, by decide⟩
set_option maxRecDepth 100000 in
theorem mi_pf79 : mi_PF (11, 282, 5, 1, 337) := ⟨rfl, by decide, by decide, rfl, by decide, by decide⟩
set_option maxRecDepth 100000 in
theorem mi_pf80 : mi_PF (5, 25, 5, 2, 338) := ⟨rfl, by decide, by decide, rfl, by decide, by decide⟩
set_option maxRecDepth 100000 in
theorem mi_pf81 : mi_PF (2, 59, 5, 2, 339) := ⟨rfl, by decide, by decide, rfl, by decide, by decide⟩
set_option maxRecDepth 100000 in
theorem mi_pf82 : mi_PF (11, 119, 5, 2, 340) := ⟨rfl, by decide, by decide, rfl, by decide, by decide⟩
set_option maxRecDepth 100000 in
theorem mi_pf83 : mi_PF (1, 89, 5, 2, 341) := ⟨rfl, by decide, by decide, rfl, by decide, by decide⟩
set_option maxRecDepth 100000 in
theorem mi_pf84 : mi_PF (8, 20, 8, 0, 349) := ⟨rfl, by decide, by decide, rfl, by decide, by decide⟩
set_option maxRecDepth 100000 in
theorem mi_pf85 : mi_PF (8, 24, 8, 1, 350) := ⟨rfl, by decide, by decide, rfl, by decide, by decide⟩
set_option maxRecDepth 100000 in
theorem mi_pf86 : mi_PF (8, 14, 8, 2, 351) := ⟨rfl, by decide, by decide, rfl, by decide, by decide⟩
set_option maxRecDepth 100000 in
theorem mi_pf87 : mi_PF (8, 47, 8, 3, 352) := ⟨rfl, by decide, by decide, rfl, by decide, by decide⟩
set_option maxRecDepth 100000 in
theorem mi_pf88 : mi_PF (8, 51, 8, 4, 353) := ⟨rfl, by decide, by decide, rfl, by decide, by decide⟩
set_option maxRecDepth 100000 in
theorem mi_pf89 : mi_PF (8, 54, 8, 5, 354) := ⟨rfl, by decide, by decide, rfl, by decide, by decide⟩
set_option maxRecDepth 100000 in
theorem mi_pf90 : mi_PF (9, 14, 9, 0, 380) := ⟨rfl, by decide, by decide, rfl, by decide, by decide⟩
set_option maxRecDepth 100000 in
theorem mi_pf91 : mi_PF (11, 253, 9, 0, 381) := ⟨rfl, by decide, by decide, rfl, by decide, by decide⟩
set_option maxRecDepth 100000 in
theorem mi_pf92 : mi_PF (9, 23, 9, 1, 382) := ⟨rfl, by decide, by decide, rfl, by decide, by decide⟩
set_option maxRecDepth 100000 in
theorem mi_pf93 : mi_PF (9, 27, 9, 2, 383) := ⟨rfl, by decide, by decide, rfl, by decide, by decide⟩
set_option maxRecDepth 100000 in
theorem mi_pf94 : mi_PF (9, 30, 9, 3, 384) := ⟨rfl, by decide, by decide, rfl, by decide, by decide⟩
set_option maxRecDepth 100000 in
theorem mi_pf95 : mi_PF (10, 14, 10, 0, 402) := ⟨rfl, by decide, by decide, rfl, by decide, by decide⟩
set_option maxRecDepth 100000 in
theorem mi_pf96 : mi_PF (11, 236, 10, 0, 403) := ⟨rfl, by decide, by decide, rfl, by decide, by decide⟩
set_option maxRecDepth 100000 in
theorem mi_pf97 : mi_PF (10, 23, 10, 1, 404) := ⟨rfl, by decide, by decide, rfl, by decide, by decide⟩
set_option maxRecDepth 100000 in
theorem mi_pf98 : mi_PF (10, 20, 10, 2, 405) := ⟨rfl, by decide, by decide, rfl, by decide, by decide⟩
set_option maxRecDepth 100000 in
theorem mi_pf99 : mi_PF (10, 27, 10, 3, 406) := ⟨rfl, by decide, by decide, rfl, by decide, by decide⟩
set_option maxRecDepth 100000 in
theorem mi_pf100 : mi_PF (11, 235, 10, 3, 407) := ⟨rfl, by decide, by decide, rfl, by decide, by decide⟩
set_option maxRecDepth 100000 in
theorem mi_pf101 : mi_PF (11, 10, 11, 0, 417) := ⟨rfl, by decide, by decide, rfl, by decide, by decide⟩
set_option maxRecDepth 100000 in
theorem mi_pf102 : mi_PF (11, 19, 11, 1, 418) := ⟨rfl, by decide, by decide, rfl, by decide, by decide⟩
set_option maxRecDepth 100000 in
theorem mi_pf103 : mi_PF (11, 28, 11, 2, 419) := ⟨rfl, by decide, by decide, rfl, by decide, by decide⟩
set_option maxRecDepth 100000 in
theorem mi_pf104 : mi_PF (11, 37, 11, 3, 420) := ⟨rfl, by decide, by decide, rfl, by decide, by decide⟩
set_option maxRecDepth 100000 in
theorem mi_pf105 : mi_PF (11, 41, 11, 4, 421) := ⟨rfl, by decide, by decide, rfl, by decide, by decide⟩
set_option maxRecDepth 100000 in
theorem mi_pf106 : mi_PF (11, 47, 11, 5, 422) := ⟨rfl, by decide, by decide, rfl, by decide, by decide⟩
set_option maxRecDepth 100000 in
theorem mi_pf107 : mi_PF (11, 60, 11, 6, 423) := ⟨rfl, by decide, by decide, rfl, by decide, by decide⟩
set_option maxRecDepth 100000 in
theorem mi_pf108 : mi_PF (11, 64, 11, 7, 424) := ⟨rfl, by decide, by decide, rfl, by decide, by decide⟩
set_option maxRecDepth 100000 in
theorem mi_pf109 : mi_PF (12, 7, 12, 0, 1112) := ⟨rfl, by decide, by decide, rfl, by decide, by decide⟩
set_option maxRecDepth 100000 in
theorem mi_pf110 : mi_PF (12, 129, 12, 1, 1113) := ⟨rfl, by decide, by decide, rfl, by decide, by decide⟩
set_option maxRecDepth 100000 in
theorem mi_pf111 : mi_PF (12, 113, 12, 2, 1114) := ⟨rfl, by decide, by decide, rfl, by decide, by decide⟩
set_option maxRecDepth 100000 in
theorem mi_pf112 : mi_PF (12, 13, 12, 3, 1115) := ⟨rfl, by decide, by decide, rfl, by decide, by decide⟩
set_option maxRecDepth 100000 in
theorem mi_pf113 : mi_PF (12, 17, 12, 4, 1116) := ⟨rfl, by decide, by decide, rfl, by decide, by decide⟩
set_option maxRecDepth 100000 in
theorem mi_pf114 : mi_PF (12, 20, 12, 5, 1117) := ⟨rfl, by decide, by decide, rfl, by decide, by decide⟩
set_option maxRecDepth 100000 in
theorem mi_pf115 : mi_PF (12, 23, 12, 6, 1118) := ⟨rfl, by decide, by decide, rfl, by decide, by decide⟩
set_option maxRecDepth 100000 in
theorem mi_pf116 : mi_PF (12, 27, 12, 7, 1119) := ⟨rfl, by decide, by decide, rfl, by decide, by decide⟩
set_option maxRecDepth 100000 in
theorem mi_pf117 : mi_PF (12, 30, 12, 8, 1120) := ⟨rfl, by decide, by decide, rfl, by decide, by decide⟩
set_option maxRecDepth 100000 in
theorem mi_pf118 : mi_PF (12, 33, 12, 9, 1121) := ⟨rfl, by decide, by decide, rfl, by decide, by decide⟩
set_option maxRecDepth 100000 in
theorem mi_pf119 : mi_PF (12, 37, 12, 10, 1122) := ⟨rfl, by decide, by decide, rfl, by decide, by decide⟩
set_option maxRecDepth 100000 in
theorem mi_pf120 : mi_PF (12, 173, 12, 11, 1123) := ⟨rfl, by decide, by decide, rfl, by decide, by decide⟩
set_option maxRecDepth 100000 in
theorem mi_pf121 : mi_PF (12, 197, 12, 12, 1124) := ⟨rfl, by decide, by decide, rfl, by decide, by decide⟩
set_option maxRecDepth 100000 in
theorem mi_pf122 : mi_PF (12, 41, 12, 13, 1125) := ⟨rfl, by decide, by decide, rfl, by decide, by decide⟩
set_option maxRecDepth 100000 in
theorem mi_pf123 : mi_PF (12, 44, 12, 14, 1126) := ⟨rfl, by decide, by decide, rfl, by decide, by decide⟩
set_option maxRecDepth 100000 in
theorem mi_pf124 : mi_PF (12, 203, 12, 15, 1127) := ⟨rfl, by decide, by decide, rfl, by decide, by decide⟩
set_option maxRecDepth 100000 in
theorem mi_pf125 : mi_PF (12, 47, 12, 16, 1128) := ⟨rfl, by decide, by decide, rfl, by decide, by decide⟩
set_option maxRecDepth 100000 in
theorem mi_pf126 : mi_PF (12, 50, 12, 17, 1129) := ⟨rfl, by decide, by decide, rfl, by decide, by decide⟩
set_option maxRecDepth 100000 in
theorem mi_pf127 : mi_PF (12, 53, 12, 18, 1130) := ⟨rfl, by decide, by decide, rfl, by decide, by decide⟩
set_option maxRecDepth 100000 in
theorem mi_pf128 : mi_PF (12, 56, 12, 19, 1131) := ⟨rfl, by decide, by decide, rfl, by decide, by decide⟩
set_option maxRecDepth 100000 in
theorem mi_pf129 : mi_PF (12, 59, 12, 20, 1132) := ⟨rfl, by decide, by decide, rfl, by decide, by decide⟩
set_option maxRecDepth 100000 in
theorem mi_pf130 : mi_PF (12, 62, 12, 21, 1133) := ⟨rfl, by decide, by decide, rfl, by decide, by decide⟩
set_option maxRecDepth 100000 in
theorem mi_pf131 : mi_PF (12, 65, 12, 22, 1134) := ⟨rfl, by decide, by decide, rfl, by decide, by decide⟩
set_option maxRecDepth 100000 in
theorem mi_pf132 : mi_PF (12, 68, 12, 23, 1135) := ⟨rfl, by decide, by decide, rfl, by decide, by decide⟩
set_option maxRecDepth 100000 in
theorem mi_pf133 : mi_PF (12, 184, 12, 24, 1136) := ⟨rfl, by decide, by decide, rfl, by decide, by decide⟩
set_option maxRecDepth 100000 in
theorem mi_pf134 : mi_PF (12, 71, 12, 25, 1137) := ⟨rfl, by decide, by decide, rfl, by decide, by decide⟩
set_option maxRecDepth 100000 in
theorem mi_pf135 : mi_PF (12, 74, 12, 26, 1138) := ⟨rfl, by decide, by decide, rfl, by decide, by decide⟩
set_option maxRecDepth 100000 in
theorem mi_pf136 : mi_PF (12, 187, 12, 27, 1139) := ⟨rfl, by decide, by decide, rfl, by decide, by decide⟩
set_option maxRecDepth 100000 in
theorem mi_pf137 : mi_PF (12, 77, 12, 28, 1140) := ⟨rfl, by decide, by decide, rfl, by decide, by decide⟩
set_option maxRecDepth 100000 in
theorem mi_pf138 : mi_PF (12, 80, 12, 29, 1141) := ⟨rfl, by decide, by decide, rfl, by decide, by decide⟩
set_option maxRecDepth 100000 in
theorem mi_pf139 : mi_PF (12, 132, 12, 30, 1142) := ⟨rfl, by decide, by decide, rfl, by decide, by decide⟩
set_option maxRecDepth 100000 in
theorem mi_pf140 : mi_PF (12, 248, 12, 31, 1143) := ⟨rfl, by decide, by decide, rfl, by decide, by decide⟩
set_option maxRecDepth 100000 in
theorem mi_pf141 : mi_PF (12, 137, 12, 32, 1144) := ⟨rfl, by decide, by decide, rfl, by decide, by decide⟩
set_option maxRecDepth 100000 in
theorem mi_pf142 : mi_PF (12, 83, 12, 33, 1145) := ⟨rfl, by decide, by decide, rfl, by decide, by decide⟩
set_option maxRecDepth 100000 in
theorem mi_pf143 : mi_PF (12, 120, 12, 34, 1146) := ⟨rfl, by decide, by decide, rfl, by decide, by decide⟩
set_option maxRecDepth 100000 in
theorem mi_pf144 : mi_PF (12, 86, 12, 35, 1147) := ⟨rfl, by decide, by decide, rfl, by decide, by decide⟩
set_option maxRecDepth 100000 in
theorem mi_pf145 : mi_PF (12, 253, 12, 36, 1148) := ⟨rfl, by decide, by decide, rfl, by decide, by decide⟩
set_option maxRecDepth 100000 in
theorem mi_pf146 : mi_PF (12, 89, 12, 37, 1149) := ⟨rfl, by decide, by decide, rfl, by decide, by decide⟩
set_option maxRecDepth 100000 in
theorem mi_pf147 : mi_PF (12, 92, 12, 38, 1150) := ⟨rfl, by decide, by decide, rfl, by decide, by decide⟩
set_option maxRecDepth 100000 in
theorem mi_pf148 : mi_PF (12, 95, 12, 39, 1151) := ⟨rfl, by decide, by decide, rfl, by decide, by decide⟩
set_option maxRecDepth 100000 in
theorem mi_pf149 : mi_PF (12, 98, 12, 40, 1152) := ⟨rfl, by decide, by decide, rfl, by decide, by decide⟩
set_option maxRecDepth 100000 in
theorem mi_pf150 : mi_PF (12, 234, 12, 41, 1153) := ⟨rfl, by decide, by decide, rfl, by decide, by decide⟩
set_option maxRecDepth 100000 in
theorem mi_pf151 : mi_PF (12, 101, 12, 42, 1154) := ⟨rfl, by decide, by decide, rfl, by decide, by decide⟩
set_option maxRecDepth 100000 in
theorem mi_pf152 : mi_PF (12, 104, 12, 43, 1155) := ⟨rfl, by decide, by decide, rfl, by decide, by decide⟩
set_option maxRecDepth 100000 in
theorem mi_pf153 : mi_PF (12, 107, 12, 44, 1156) := ⟨rfl, by decide, by decide, rfl, by decide, by decide⟩
set_option maxRecDepth 100000 in
theorem mi_pf154 : mi_PF (12, 110, 12, 45, 1157) := ⟨rfl, by decide, by decide, rfl, by decide, by decide⟩
set_option maxRecDepth 100000 in
theorem mi_pf155 : mi_PF (12, 259, 12, 46, 1158) := ⟨rfl, by decide, by decide, rfl, by decide, by decide⟩
set_option maxRecDepth 100000 in
theorem mi_pf156 : mi_PF (12, 262, 12, 47, 1159) := ⟨rfl, by decide, by decide, rfl, by decide, by decide⟩
set_option maxRecDepth 100000 in
theorem mi_pf157 : mi_PF (12, 256, 12, 48, 1160) := ⟨rfl, by decide, by decide, rfl, by decide, by decide⟩
set_option maxRecDepth 100000 in
theorem mi_tF_ok : ∀ e ∈ mi_tF, mi_PF e := List.forall_mem_cons.mpr ⟨mi_pf0, List.forall_mem_cons.mpr ⟨mi_pf1, List.forall_mem_cons.mpr ⟨mi_pf2, List.forall_mem_cons.mpr ⟨mi_pf3, List.forall_mem_cons.mpr ⟨mi_pf4, List.forall_mem_cons.mpr ⟨mi_pf5, List.forall_mem_cons.mpr ⟨mi_pf6, List.forall_mem_cons.mpr ⟨mi_pf7, List.forall_mem_cons.mpr ⟨mi_pf8, List.forall_mem_cons.mpr ⟨mi_pf9, List.forall_mem_cons.mpr ⟨mi_pf10, List.forall_mem_cons.mpr ⟨mi_pf11, List.forall_mem_cons.mpr ⟨mi_pf12, List.forall_mem_cons.mpr ⟨mi_pf13, List.forall_mem_cons.mpr ⟨mi_pf14, List.forall_mem_cons.mpr ⟨mi_pf15, List.forall_mem_cons.mpr ⟨mi_pf16, List.forall_mem_cons.mpr ⟨mi_pf17, List.forall_mem_cons.mpr ⟨mi_pf18, List.forall_mem_cons.mpr ⟨mi_pf19, List.forall_mem_cons.mpr ⟨mi_pf20, List.forall_mem_cons.mpr ⟨mi_pf21, List.forall_mem_cons.mpr ⟨mi_pf22, List.forall_mem_cons.mpr ⟨mi_pf23, List.forall_mem_cons.mpr ⟨mi_pf24, List.forall_mem_cons.mpr ⟨mi_pf25, List.forall_mem_cons.mpr ⟨mi_pf26, List.forall_mem_cons.mpr ⟨mi_pf27, List.forall_mem_cons.mpr ⟨mi_pf28, List.forall_mem_cons.mpr ⟨mi_pf29, List.forall_mem_cons.mpr ⟨mi_pf30, List.forall_mem_cons.mpr ⟨mi_pf31, List.forall_mem_cons.mpr ⟨mi_pf32, List.forall_mem_cons.mpr ⟨mi_pf33, List.forall_mem_cons.mpr ⟨mi_pf34, List.forall_mem_cons.mpr ⟨mi_pf35, List.forall_mem_cons.mpr ⟨mi_pf36, List.forall_mem_cons.mpr ⟨mi_pf37, List.forall_mem_cons.mpr ⟨mi_pf38, List.forall_mem_cons.mpr ⟨mi_pf39, List.forall_mem_cons.mpr ⟨mi_pf40, List.forall_mem_cons.mpr ⟨mi_pf41, List.forall_mem_cons.mpr ⟨mi_pf42, List.forall_mem_cons.mpr ⟨mi_pf43, List.forall_mem_cons.mpr ⟨mi_pf44, List.forall_mem_cons.mpr ⟨mi_pf45, List.forall_mem_cons.mpr ⟨mi_pf46, List.forall_mem_cons.mpr ⟨mi_pf47, List.forall_mem_cons.mpr ⟨mi_pf48, List.forall_mem_cons.mpr ⟨mi_pf49, List.forall_mem_cons.mpr ⟨mi_pf50, List.forall_mem_cons.mpr ⟨mi_pf51, List.forall_mem_cons.mpr ⟨mi_pf52, List.forall_mem_cons.mpr ⟨mi_pf53, List.forall_mem_cons.mpr ⟨mi_pf54, List.forall_mem_cons.mpr ⟨mi_pf55, List.forall_mem_cons.mpr ⟨mi_pf56, List.forall_mem_cons.mpr ⟨mi_pf57, List.forall_mem_cons.mpr ⟨mi_pf58, List.forall_mem_cons.mpr ⟨mi_pf59, List.forall_mem_cons.mpr ⟨mi_pf60, List.forall_mem_cons.mpr ⟨mi_pf61, List.forall_mem_cons.mpr ⟨mi_pf62, List.forall_mem_cons.mpr ⟨mi_pf63, List.forall_mem_cons.mpr ⟨mi_pf64, List.forall_mem_cons.mpr ⟨mi_pf65, List.forall_mem_cons.mpr ⟨mi_pf66, List.forall_mem_cons.mpr ⟨mi_pf67, List.forall_mem_cons.mpr ⟨mi_pf68, List.forall_mem_cons.mpr ⟨mi_pf69, List.forall_mem_cons.mpr ⟨mi_pf70, List.forall_mem_cons.mpr ⟨mi_pf71, List.forall_mem_cons.mpr ⟨mi_pf72, List.forall_mem_cons.mpr ⟨mi_pf73, List.forall_mem_cons.mpr ⟨mi_pf74, List.forall_mem_cons.mpr ⟨mi_pf75, List.forall_mem_cons.mpr ⟨mi_pf76, List.forall_mem_cons.mpr ⟨mi_pf77, List.forall_mem_cons.mpr ⟨mi_pf78, List.forall_mem_cons.mpr ⟨mi_pf79, List.forall_mem_cons.mpr ⟨mi_pf80, List.forall_mem_cons.mpr ⟨mi_pf81, List.forall_mem_cons.mpr ⟨mi_pf82, List.forall_mem_cons.mpr ⟨mi_pf83, List.forall_mem_cons.mpr ⟨mi_pf84, List.forall_mem_cons.mpr ⟨mi_pf85, List.forall_mem_cons.mpr ⟨mi_pf86, List.forall_mem_cons.mpr ⟨mi_pf87, List.forall_mem_cons.mpr ⟨mi_pf88, List.forall_mem_cons.mpr ⟨mi_pf89, List.forall_mem_cons.mpr ⟨mi_pf90, List.forall_mem_cons.mpr ⟨mi_pf91, List.forall_mem_cons.mpr ⟨mi_pf92, List.forall_mem_cons.mpr ⟨mi_pf93, List.forall_mem_cons.mpr ⟨mi_pf94, List.forall_mem_cons.mpr ⟨mi_pf95, List.forall_mem_cons.mpr ⟨mi_pf96, List.forall_mem_cons.mpr ⟨mi_pf97, List.forall_mem_cons.mpr ⟨mi_pf98, List.forall_mem_cons.mpr ⟨mi_pf99, List.forall_mem_cons.mpr ⟨mi_pf100, List.forall_mem_cons.mpr ⟨mi_pf101, List.forall_mem_cons.mpr ⟨mi_pf102, List.forall_mem_cons.mpr ⟨mi_pf103, List.forall_mem_cons.mpr ⟨mi_pf104, List.forall_mem_cons.mpr ⟨mi_pf105, List.forall_mem_cons.mpr ⟨mi_pf106, List.forall_mem_cons.mpr ⟨mi_pf107, List.forall_mem_cons.mpr ⟨mi_pf108, List.forall_mem_cons.mpr ⟨mi_pf109, List.forall_mem_cons.mpr ⟨mi_pf110, List.forall_mem_cons.mpr ⟨mi_pf111, List.forall_mem_cons.mpr ⟨mi_pf112, List.forall_mem_cons.mpr ⟨mi_pf113, List.forall_mem_cons.mpr ⟨mi_pf114, List.forall_mem_cons.mpr ⟨mi_pf115, List.forall_mem_cons.mpr ⟨mi_pf116, List.forall_mem_cons.mpr ⟨mi_pf117, List.forall_mem_cons.mpr ⟨mi_pf118, List.forall_mem_cons.mpr ⟨mi_pf119, List.forall_mem_cons.mpr ⟨mi_pf120, List.forall_mem_cons.mpr ⟨mi_pf121, List.forall_mem_cons.mpr ⟨mi_pf122, List.forall_mem_cons.mpr ⟨mi_pf123, List.forall_mem_cons.mpr ⟨mi_pf124, List.forall_mem_cons.mpr ⟨mi_pf125, List.forall_mem_cons.mpr ⟨mi_pf126, List.forall_mem_cons.mpr ⟨mi_pf127, List.forall_mem_cons.mpr ⟨mi_pf128, List.forall_mem_cons.mpr ⟨mi_pf129, List.forall_mem_cons.mpr ⟨mi_pf130, List.forall_mem_cons.mpr ⟨mi_pf131, List.forall_mem_cons.mpr ⟨mi_pf132, List.forall_mem_cons.mpr ⟨mi_pf133, List.forall_mem_cons.mpr ⟨mi_pf134, List.forall_mem_cons.mpr ⟨mi_pf135, List.forall_mem_cons.mpr ⟨mi_pf136, List.forall_mem_cons.mpr ⟨mi_pf137, List.forall_mem_cons.mpr ⟨mi_pf138, List.forall_mem_cons.mpr ⟨mi_pf139, List.forall_mem_cons.mpr ⟨mi_pf140, List.forall_mem_cons.mpr ⟨mi_pf141, List.forall_mem_cons.mpr ⟨mi_pf142, List.forall_mem_cons.mpr ⟨mi_pf143, List.forall_mem_cons.mpr ⟨mi_pf144, List.forall_mem_cons.mpr ⟨mi_pf145, List.forall_mem_cons.mpr ⟨mi_pf146, List.forall_mem_cons.mpr ⟨mi_pf147, List.forall_mem_cons.mpr ⟨mi_pf148, List.forall_mem_cons.mpr ⟨mi_pf149, List.forall_mem_cons.mpr ⟨mi_pf150, List.forall_mem_cons.mpr ⟨mi_pf151, List.forall_mem_cons.mpr ⟨mi_pf152, List.forall_mem_cons.mpr ⟨mi_pf153, List.forall_mem_cons.mpr ⟨mi_pf154, List.forall_mem_cons.mpr ⟨mi_pf155, List.forall_mem_cons.mpr ⟨mi_pf156, List.forall_mem_cons.mpr ⟨mi_pf157, fun _ h => absurd h List.not_mem_nil⟩⟩⟩⟩⟩⟩⟩⟩⟩⟩⟩⟩⟩⟩⟩⟩⟩⟩⟩⟩⟩⟩⟩⟩⟩⟩⟩⟩⟩⟩⟩⟩⟩⟩⟩⟩⟩⟩⟩⟩⟩⟩⟩⟩⟩⟩⟩⟩⟩⟩⟩⟩⟩⟩⟩⟩⟩⟩⟩⟩⟩⟩⟩⟩⟩⟩⟩⟩⟩⟩⟩⟩⟩⟩⟩⟩⟩⟩⟩⟩⟩⟩⟩⟩⟩⟩⟩⟩⟩⟩⟩⟩⟩⟩⟩⟩⟩⟩⟩⟩⟩⟩⟩⟩⟩⟩⟩⟩⟩⟩⟩⟩⟩⟩⟩⟩⟩⟩⟩⟩⟩⟩⟩⟩⟩⟩⟩⟩⟩⟩⟩⟩⟩⟩⟩⟩⟩⟩⟩⟩⟩⟩⟩⟩⟩⟩⟩⟩⟩⟩⟩⟩⟩⟩⟩⟩⟩⟩
def mi_PW : Nat × Nat × Nat × Nat × Nat × Nat → Prop := fun e => match e with
  | (o, i, k, p1, p2, p3) => lw_tbl[p1]? = some (Cond.classLink (mi_RX o) i (mi_RX k)) ∧ lw_tbl[p2]? = some (Cond.instantiable (mi_RX k) (mi_n k)) ∧ lw_tbl[p3]? = some (Cond.initialized (mi_RX k)) ∧ k < 13
set_option maxRecDepth 100000 in
theorem mi_pw0 : mi_PW (13, 7, 11, 87, 88, 71) := ⟨rfl, rfl, rfl, by decide⟩
set_option maxRecDepth 100000 in
theorem mi_pw1 : mi_PW (11, 7, 1, 95, 96, 72) := ⟨rfl, rfl, rfl, by decide⟩
set_option maxRecDepth 100000 in
theorem mi_pw2 : mi_PW (1, 9, 0, 101, 102, 73) := ⟨rfl, rfl, rfl, by decide⟩
set_option maxRecDepth 100000 in
theorem mi_pw3 : mi_PW (0, 9, 3, 107, 108, 74) := ⟨rfl, rfl, rfl, by decide⟩
set_option maxRecDepth 100000 in
theorem mi_pw4 : mi_PW (0, 35, 6, 121, 122, 75) := ⟨rfl, rfl, rfl, by decide⟩
set_option maxRecDepth 100000 in
theorem mi_pw5 : mi_PW (1, 18, 7, 180, 181, 76) := ⟨rfl, rfl, rfl, by decide⟩
set_option maxRecDepth 100000 in
theorem mi_pw6 : mi_PW (7, 9, 3, 186, 108, 74) := ⟨rfl, rfl, rfl, by decide⟩
set_option maxRecDepth 100000 in
theorem mi_pw7 : mi_PW (1, 25, 2, 205, 206, 77) := ⟨rfl, rfl, rfl, by decide⟩
set_option maxRecDepth 100000 in
theorem mi_pw8 : mi_PW (2, 9, 3, 211, 108, 74) := ⟨rfl, rfl, rfl, by decide⟩
set_option maxRecDepth 100000 in
theorem mi_pw9 : mi_PW (2, 41, 6, 213, 122, 75) := ⟨rfl, rfl, rfl, by decide⟩
set_option maxRecDepth 100000 in
theorem mi_pw10 : mi_PW (1, 36, 6, 255, 122, 75) := ⟨rfl, rfl, rfl, by decide⟩
set_option maxRecDepth 100000 in
theorem mi_pw11 : mi_PW (11, 16, 4, 279, 280, 78) := ⟨rfl, rfl, rfl, by decide⟩
set_option maxRecDepth 100000 in
theorem mi_pw12 : mi_PW (4, 9, 3, 285, 108, 74) := ⟨rfl, rfl, rfl, by decide⟩
set_option maxRecDepth 100000 in
theorem mi_pw13 : mi_PW (11, 23, 8, 314, 315, 79) := ⟨rfl, rfl, rfl, by decide⟩
set_option maxRecDepth 100000 in
theorem mi_pw14 : mi_PW (8, 9, 5, 320, 321, 80) := ⟨rfl, rfl, rfl, by decide⟩
set_option maxRecDepth 100000 in
theorem mi_pw15 : mi_PW (5, 7, 3, 326, 108, 74) := ⟨rfl, rfl, rfl, by decide⟩
set_option maxRecDepth 100000 in
theorem mi_pw16 : mi_PW (5, 18, 6, 328, 122, 75) := ⟨rfl, rfl, rfl, by decide⟩
set_option maxRecDepth 100000 in
theorem mi_pw17 : mi_PW (11, 32, 5, 368, 321, 80) := ⟨rfl, rfl, rfl, by decide⟩
set_option maxRecDepth 100000 in
theorem mi_pw18 : mi_PW (11, 44, 9, 370, 371, 81) := ⟨rfl, rfl, rfl, by decide⟩
set_option maxRecDepth 100000 in
theorem mi_pw19 : mi_PW (9, 9, 6, 376, 122, 75) := ⟨rfl, rfl, rfl, by decide⟩
set_option maxRecDepth 100000 in
theorem mi_pw20 : mi_PW (9, 20, 3, 378, 108, 74) := ⟨rfl, rfl, rfl, by decide⟩
set_option maxRecDepth 100000 in
theorem mi_pw21 : mi_PW (11, 51, 10, 394, 395, 82) := ⟨rfl, rfl, rfl, by decide⟩
set_option maxRecDepth 100000 in
theorem mi_pw22 : mi_PW (10, 9, 3, 400, 108, 74) := ⟨rfl, rfl, rfl, by decide⟩
set_option maxRecDepth 100000 in
theorem mi_pw23 : mi_PW (13, 10, 12, 1106, 1107, 83) := ⟨rfl, rfl, rfl, by decide⟩
theorem mi_tW_ok : ∀ e ∈ mi_tW, mi_PW e := List.forall_mem_cons.mpr ⟨mi_pw0, List.forall_mem_cons.mpr ⟨mi_pw1, List.forall_mem_cons.mpr ⟨mi_pw2, List.forall_mem_cons.mpr ⟨mi_pw3, List.forall_mem_cons.mpr ⟨mi_pw4, List.forall_mem_cons.mpr ⟨mi_pw5, List.forall_mem_cons.mpr ⟨mi_pw6, List.forall_mem_cons.mpr ⟨mi_pw7, List.forall_mem_cons.mpr ⟨mi_pw8, List.forall_mem_cons.mpr ⟨mi_pw9, List.forall_mem_cons.mpr ⟨mi_pw10, List.forall_mem_cons.mpr ⟨mi_pw11, List.forall_mem_cons.mpr ⟨mi_pw12, List.forall_mem_cons.mpr ⟨mi_pw13, List.forall_mem_cons.mpr ⟨mi_pw14, List.forall_mem_cons.mpr ⟨mi_pw15, List.forall_mem_cons.mpr ⟨mi_pw16, List.forall_mem_cons.mpr ⟨mi_pw17, List.forall_mem_cons.mpr ⟨mi_pw18, List.forall_mem_cons.mpr ⟨mi_pw19, List.forall_mem_cons.mpr ⟨mi_pw20, List.forall_mem_cons.mpr ⟨mi_pw21, List.forall_mem_cons.mpr ⟨mi_pw22, List.forall_mem_cons.mpr ⟨mi_pw23, fun _ h => absurd h List.not_mem_nil⟩⟩⟩⟩⟩⟩⟩⟩⟩⟩⟩⟩⟩⟩⟩⟩⟩⟩⟩⟩⟩⟩⟩⟩
def mi_PKL : Nat × Nat × Int64 × Nat → Prop := fun e => lw_tbl[e.2.2.2]? = some (Cond.constantLong (mi_RX e.1) e.2.1 e.2.2.1)
set_option maxRecDepth 100000 in
theorem mi_pkl0 : mi_PKL (4, 30, 127, 474) := rfl
set_option maxRecDepth 100000 in
theorem mi_pkl1 : mi_PKL (11, 237, 1000000000000000, 604) := rfl
set_option maxRecDepth 100000 in
theorem mi_pkl2 : mi_PKL (1, 130, 10000000000000000, 672) := rfl
set_option maxRecDepth 100000 in
theorem mi_pkl3 : mi_PKL (11, 296, 1000, 796) := rfl
set_option maxRecDepth 100000 in
theorem mi_pkl4 : mi_PKL (9, 58, -1, 825) := rfl
set_option maxRecDepth 100000 in
theorem mi_pkl5 : mi_PKL (11, 192, -9223372036854775808, 976) := rfl
set_option maxRecDepth 100000 in
theorem mi_pkl6 : mi_PKL (2, 100, -9223372036854775808, 1022) := rfl
set_option maxRecDepth 100000 in
theorem mi_pkl7 : mi_PKL (10, 110, 10, 1068) := rfl
set_option maxRecDepth 100000 in
theorem mi_pkl8 : mi_PKL (12, 152, 9999, 1272) := rfl
set_option maxRecDepth 100000 in
theorem mi_pkl9 : mi_PKL (12, 154, 4, 1273) := rfl
set_option maxRecDepth 100000 in
theorem mi_pkl10 : mi_PKL (12, 123, -2, 1286) := rfl
set_option maxRecDepth 100000 in
theorem mi_pkl11 : mi_PKL (12, 125, 2, 1287) := rfl
set_option maxRecDepth 100000 in
theorem mi_pkl12 : mi_PKL (12, 127, 127, 1288) := rfl
set_option maxRecDepth 100000 in
theorem mi_pkl13 : mi_PKL (12, 180, -1000000000000000, 1326) := rfl
set_option maxRecDepth 100000 in
theorem mi_pkl14 : mi_PKL (12, 182, 1000000000000000, 1327) := rfl
set_option maxRecDepth 100000 in
theorem mi_pkl15 : mi_PKL (12, 190, -10000000000000000, 1360) := rfl
set_option maxRecDepth 100000 in
theorem mi_pkl16 : mi_PKL (12, 192, 10000000000000000, 1361) := rfl
set_option maxRecDepth 100000 in
theorem mi_pkl17 : mi_PKL (12, 239, 1000, 1394) := rfl
set_option maxRecDepth 100000 in
theorem mi_pkl18 : mi_PKL (12, 237, -1, 1399) := rfl
set_option maxRecDepth 100000 in
theorem mi_pkl19 : mi_PKL (12, 244, 3, 1404) := rfl
set_option maxRecDepth 100000 in
theorem mi_pkl20 : mi_PKL (12, 246, -9223372036854775808, 1405) := rfl
set_option maxRecDepth 100000 in
theorem mi_pkl21 : mi_PKL (12, 251, 255, 1414) := rfl
set_option maxRecDepth 100000 in
theorem mi_pkl22 : mi_PKL (12, 269, -2147483648, 1435) := rfl
set_option maxRecDepth 100000 in
theorem mi_pkl23 : mi_PKL (12, 271, 2147483647, 1436) := rfl
set_option maxRecDepth 100000 in
theorem mi_pkl24 : mi_PKL (12, 308, 8, 1453) := rfl
set_option maxRecDepth 100000 in
theorem mi_pkl25 : mi_PKL (12, 327, 10, 1513) := rfl
set_option maxRecDepth 100000 in
theorem mi_pkl26 : mi_PKL (12, 344, 5, 1534) := rfl
set_option maxRecDepth 100000 in
theorem mi_pkl27 : mi_PKL (12, 346, 7, 1535) := rfl
set_option maxRecDepth 100000 in
theorem mi_pkl28 : mi_PKL (12, 348, 9, 1536) := rfl
set_option maxRecDepth 100000 in
theorem mi_pkl29 : mi_PKL (13, 32, 4294967295, 1537) := rfl
theorem mi_tKL_ok : ∀ e ∈ mi_tKL, mi_PKL e := List.forall_mem_cons.mpr ⟨mi_pkl0, List.forall_mem_cons.mpr ⟨mi_pkl1, List.forall_mem_cons.mpr ⟨mi_pkl2, List.forall_mem_cons.mpr ⟨mi_pkl3, List.forall_mem_cons.mpr ⟨mi_pkl4, List.forall_mem_cons.mpr ⟨mi_pkl5, List.forall_mem_cons.mpr ⟨mi_pkl6, List.forall_mem_cons.mpr ⟨mi_pkl7, List.forall_mem_cons.mpr ⟨mi_pkl8, List.forall_mem_cons.mpr ⟨mi_pkl9, List.forall_mem_cons.mpr ⟨mi_pkl10, List.forall_mem_cons.mpr ⟨mi_pkl11, List.forall_mem_cons.mpr ⟨mi_pkl12, List.forall_mem_cons.mpr ⟨mi_pkl13, List.forall_mem_cons.mpr ⟨mi_pkl14, List.forall_mem_cons.mpr ⟨mi_pkl15, List.forall_mem_cons.mpr ⟨mi_pkl16, List.forall_mem_cons.mpr ⟨mi_pkl17, List.forall_mem_cons.mpr ⟨mi_pkl18, List.forall_mem_cons.mpr ⟨mi_pkl19, List.forall_mem_cons.mpr ⟨mi_pkl20, List.forall_mem_cons.mpr ⟨mi_pkl21, List.forall_mem_cons.mpr ⟨mi_pkl22, List.forall_mem_cons.mpr ⟨mi_pkl23, List.forall_mem_cons.mpr ⟨mi_pkl24, List.forall_mem_cons.mpr ⟨mi_pkl25, List.forall_mem_cons.mpr ⟨mi_pkl26, List.forall_mem_cons.mpr ⟨mi_pkl27, List.forall_mem_cons.mpr ⟨mi_pkl28, List.forall_mem_cons.mpr ⟨mi_pkl29, fun _ h => absurd h List.not_mem_nil⟩⟩⟩⟩⟩⟩⟩⟩⟩⟩⟩⟩⟩⟩⟩⟩⟩⟩⟩⟩⟩⟩⟩⟩⟩⟩⟩⟩⟩⟩
def mi_PKI : Nat × Nat × Int32 × Nat → Prop := fun e => lw_tbl[e.2.2.2]? = some (Cond.constant (mi_RX e.1) e.2.1 e.2.2.1)
set_option maxRecDepth 100000 in
theorem mi_pki0 : mi_PKI (4, 52, 65535, 512) := rfl
set_option maxRecDepth 100000 in
theorem mi_pki1 : mi_PKI (4, 53, 32768, 513) := rfl
set_option maxRecDepth 100000 in
theorem mi_pki2 : mi_PKI (12, 136, 65535, 1297) := rfl
set_option maxRecDepth 100000 in
theorem mi_pki3 : mi_PKI (12, 135, 32768, 1301) := rfl
theorem mi_tKI_ok : ∀ e ∈ mi_tKI, mi_PKI e := List.forall_mem_cons.mpr ⟨mi_pki0, List.forall_mem_cons.mpr ⟨mi_pki1, List.forall_mem_cons.mpr ⟨mi_pki2, List.forall_mem_cons.mpr ⟨mi_pki3, fun _ h => absurd h List.not_mem_nil⟩⟩⟩⟩
def mi_QN (k : Nat) : MethodName := ([yX3_init, yX3_at, yX3_put, yX6_init, yX6_at, yX6_put, yX6_addTo, yX6_clear, Lib.MathLoose.abs_long.x, Lib.Math.min.name, Lib.Math.max.name, Lib.objectInit] : List MethodName).getD k Lib.objectInit
def mi_PQ : Nat × Nat × Nat × Nat → Prop := fun e => lw_tbl[e.2.2.2]? = some (Cond.methodLink (mi_RX e.1) e.2.1 (mi_QN e.2.2.1)) ∧ e.2.2.1 < 12
set_option maxRecDepth 100000 in
theorem mi_pq0 : mi_PQ (11, 1, 11, 92) := ⟨rfl, by decide⟩
set_option maxRecDepth 100000 in
theorem mi_pq1 : mi_PQ (1, 3, 11, 100) := ⟨rfl, by decide⟩
set_option maxRecDepth 100000 in
theorem mi_pq2 : mi_PQ (0, 3, 11, 106) := ⟨rfl, by decide⟩
set_option maxRecDepth 100000 in
theorem mi_pq3 : mi_PQ (0, 11, 0, 109) := ⟨rfl, by decide⟩
set_option maxRecDepth 100000 in
theorem mi_pq4 : mi_PQ (3, 1, 11, 112) := ⟨rfl, by decide⟩
set_option maxRecDepth 100000 in
theorem mi_pq5 : mi_PQ (0, 37, 3, 123) := ⟨rfl, by decide⟩
set_option maxRecDepth 100000 in
theorem mi_pq6 : mi_PQ (6, 1, 11, 126) := ⟨rfl, by decide⟩
set_option maxRecDepth 100000 in
theorem mi_pq7 : mi_PQ (7, 3, 11, 185) := ⟨rfl, by decide⟩
set_option maxRecDepth 100000 in
theorem mi_pq8 : mi_PQ (7, 11, 0, 187) := ⟨rfl, by decide⟩
set_option maxRecDepth 100000 in
theorem mi_pq9 : mi_PQ (2, 3, 11, 210) := ⟨rfl, by decide⟩
set_option maxRecDepth 100000 in
theorem mi_pq10 : mi_PQ (2, 11, 0, 212) := ⟨rfl, by decide⟩
set_option maxRecDepth 100000 in
theorem mi_pq11 : mi_PQ (2, 43, 3, 214) := ⟨rfl, by decide⟩
set_option maxRecDepth 100000 in
theorem mi_pq12 : mi_PQ (1, 38, 3, 256) := ⟨rfl, by decide⟩
set_option maxRecDepth 100000 in
theorem mi_pq13 : mi_PQ (4, 3, 11, 284) := ⟨rfl, by decide⟩
set_option maxRecDepth 100000 in
theorem mi_pq14 : mi_PQ (4, 11, 0, 286) := ⟨rfl, by decide⟩
set_option maxRecDepth 100000 in
theorem mi_pq15 : mi_PQ (8, 3, 11, 319) := ⟨rfl, by decide⟩
set_option maxRecDepth 100000 in
theorem mi_pq16 : mi_PQ (5, 1, 11, 325) := ⟨rfl, by decide⟩
set_option maxRecDepth 100000 in
theorem mi_pq17 : mi_PQ (5, 9, 0, 327) := ⟨rfl, by decide⟩
set_option maxRecDepth 100000 in
theorem mi_pq18 : mi_PQ (5, 20, 3, 329) := ⟨rfl, by decide⟩
set_option maxRecDepth 100000 in
theorem mi_pq19 : mi_PQ (9, 3, 11, 375) := ⟨rfl, by decide⟩
set_option maxRecDepth 100000 in
theorem mi_pq20 : mi_PQ (9, 11, 3, 377) := ⟨rfl, by decide⟩
set_option maxRecDepth 100000 in
theorem mi_pq21 : mi_PQ (9, 22, 0, 379) := ⟨rfl, by decide⟩
set_option maxRecDepth 100000 in
theorem mi_pq22 : mi_PQ (10, 3, 11, 399) := ⟨rfl, by decide⟩
set_option maxRecDepth 100000 in
theorem mi_pq23 : mi_PQ (10, 11, 0, 401) := ⟨rfl, by decide⟩
set_option maxRecDepth 100000 in
theorem mi_pq24 : mi_PQ (0, 56, 1, 458) := ⟨rfl, by decide⟩
set_option maxRecDepth 100000 in
theorem mi_pq25 : mi_PQ (4, 32, 2, 475) := ⟨rfl, by decide⟩
set_option maxRecDepth 100000 in
theorem mi_pq26 : mi_PQ (3, 17, 9, 479) := ⟨rfl, by decide⟩
set_option maxRecDepth 100000 in
theorem mi_pq27 : mi_PQ (3, 23, 10, 482) := ⟨rfl, by decide⟩
set_option maxRecDepth 100000 in
theorem mi_pq28 : mi_PQ (4, 41, 1, 507) := ⟨rfl, by decide⟩
set_option maxRecDepth 100000 in
theorem mi_pq29 : mi_PQ (0, 60, 2, 518) := ⟨rfl, by decide⟩
set_option maxRecDepth 100000 in
theorem mi_pq30 : mi_PQ (0, 64, 5, 519) := ⟨rfl, by decide⟩
set_option maxRecDepth 100000 in
theorem mi_pq31 : mi_PQ (6, 17, 9, 523) := ⟨rfl, by decide⟩
set_option maxRecDepth 100000 in
theorem mi_pq32 : mi_PQ (6, 23, 10, 524) := ⟨rfl, by decide⟩
set_option maxRecDepth 100000 in
theorem mi_pq33 : mi_PQ (7, 34, 1, 574) := ⟨rfl, by decide⟩
set_option maxRecDepth 100000 in
theorem mi_pq34 : mi_PQ (7, 30, 2, 579) := ⟨rfl, by decide⟩
set_option maxRecDepth 100000 in
theorem mi_pq35 : mi_PQ (1, 79, 1, 588) := ⟨rfl, by decide⟩
set_option maxRecDepth 100000 in
theorem mi_pq36 : mi_PQ (5, 29, 2, 612) := ⟨rfl, by decide⟩
set_option maxRecDepth 100000 in
theorem mi_pq37 : mi_PQ (5, 33, 5, 613) := ⟨rfl, by decide⟩
set_option maxRecDepth 100000 in
theorem mi_pq38 : mi_PQ (5, 36, 4, 638) := ⟨rfl, by decide⟩
set_option maxRecDepth 100000 in
theorem mi_pq39 : mi_PQ (1, 116, 7, 658) := ⟨rfl, by decide⟩
set_option maxRecDepth 100000 in
theorem mi_pq40 : mi_PQ (1, 120, 4, 665) := ⟨rfl, by decide⟩
set_option maxRecDepth 100000 in
theorem mi_pq41 : mi_PQ (6, 32, 4, 670) := ⟨rfl, by decide⟩
set_option maxRecDepth 100000 in
theorem mi_pq42 : mi_PQ (6, 36, 5, 671) := ⟨rfl, by decide⟩
set_option maxRecDepth 100000 in
theorem mi_pq43 : mi_PQ (11, 179, 1, 674) := ⟨rfl, by decide⟩
set_option maxRecDepth 100000 in
theorem mi_pq44 : mi_PQ (11, 256, 4, 675) := ⟨rfl, by decide⟩
set_option maxRecDepth 100000 in
theorem mi_pq45 : mi_PQ (2, 55, 2, 689) := ⟨rfl, by decide⟩
set_option maxRecDepth 100000 in
theorem mi_pq46 : mi_PQ (2, 65, 1, 690) := ⟨rfl, by decide⟩
set_option maxRecDepth 100000 in
theorem mi_pq47 : mi_PQ (2, 72, 4, 691) := ⟨rfl, by decide⟩
set_option maxRecDepth 100000 in
theorem mi_pq48 : mi_PQ (2, 75, 5, 692) := ⟨rfl, by decide⟩
set_option maxRecDepth 100000 in
theorem mi_pq49 : mi_PQ (1, 164, 2, 725) := ⟨rfl, by decide⟩
set_option maxRecDepth 100000 in
theorem mi_pq50 : mi_PQ (2, 92, 7, 747) := ⟨rfl, by decide⟩
set_option maxRecDepth 100000 in
theorem mi_pq51 : mi_PQ (9, 34, 2, 810) := ⟨rfl, by decide⟩
set_option maxRecDepth 100000 in
theorem mi_pq52 : mi_PQ (9, 38, 1, 815) := ⟨rfl, by decide⟩
set_option maxRecDepth 100000 in
theorem mi_pq53 : mi_PQ (9, 42, 5, 816) := ⟨rfl, by decide⟩
set_option maxRecDepth 100000 in
theorem mi_pq54 : mi_PQ (9, 45, 8, 817) := ⟨rfl, by decide⟩
set_option maxRecDepth 100000 in
theorem mi_pq55 : mi_PQ (9, 51, 4, 820) := ⟨rfl, by decide⟩
set_option maxRecDepth 100000 in
theorem mi_pq56 : mi_PQ (4, 57, 9, 847) := ⟨rfl, by decide⟩
set_option maxRecDepth 100000 in
theorem mi_pq57 : mi_PQ (8, 62, 1, 884) := ⟨rfl, by decide⟩
set_option maxRecDepth 100000 in
theorem mi_pq58 : mi_PQ (0, 76, 4, 982) := ⟨rfl, by decide⟩
set_option maxRecDepth 100000 in
theorem mi_pq59 : mi_PQ (10, 50, 1, 1050) := ⟨rfl, by decide⟩
set_option maxRecDepth 100000 in
theorem mi_pq60 : mi_PQ (10, 62, 4, 1052) := ⟨rfl, by decide⟩
set_option maxRecDepth 100000 in
theorem mi_pq61 : mi_PQ (10, 112, 2, 1061) := ⟨rfl, by decide⟩
set_option maxRecDepth 100000 in
theorem mi_pq62 : mi_PQ (10, 104, 8, 1067) := ⟨rfl, by decide⟩
set_option maxRecDepth 100000 in
theorem mi_pq63 : mi_PQ (12, 1, 11, 1111) := ⟨rfl, by decide⟩
theorem mi_tQ_ok : ∀ e ∈ mi_tQ, mi_PQ e := List.forall_mem_cons.mpr ⟨mi_pq0, List.forall_mem_cons.mpr ⟨mi_pq1, List.forall_mem_cons.mpr ⟨mi_pq2, List.forall_mem_cons.mpr ⟨mi_pq3, List.forall_mem_cons.mpr ⟨mi_pq4, List.forall_mem_cons.mpr ⟨mi_pq5, List.forall_mem_cons.mpr ⟨mi_pq6, List.forall_mem_cons.mpr ⟨mi_pq7, List.forall_mem_cons.mpr ⟨mi_pq8, List.forall_mem_cons.mpr ⟨mi_pq9, List.forall_mem_cons.mpr ⟨mi_pq10, List.forall_mem_cons.mpr ⟨mi_pq11, List.forall_mem_cons.mpr ⟨mi_pq12, List.forall_mem_cons.mpr ⟨mi_pq13, List.forall_mem_cons.mpr ⟨mi_pq14, List.forall_mem_cons.mpr ⟨mi_pq15, List.forall_mem_cons.mpr ⟨mi_pq16, List.forall_mem_cons.mpr ⟨mi_pq17, List.forall_mem_cons.mpr ⟨mi_pq18, List.forall_mem_cons.mpr ⟨mi_pq19, List.forall_mem_cons.mpr ⟨mi_pq20, List.forall_mem_cons.mpr ⟨mi_pq21, List.forall_mem_cons.mpr ⟨mi_pq22, List.forall_mem_cons.mpr ⟨mi_pq23, List.forall_mem_cons.mpr ⟨mi_pq24, List.forall_mem_cons.mpr ⟨mi_pq25, List.forall_mem_cons.mpr ⟨mi_pq26, List.forall_mem_cons.mpr ⟨mi_pq27, List.forall_mem_cons.mpr ⟨mi_pq28, List.forall_mem_cons.mpr ⟨mi_pq29, List.forall_mem_cons.mpr ⟨mi_pq30, List.forall_mem_cons.mpr ⟨mi_pq31, List.forall_mem_cons.mpr ⟨mi_pq32, List.forall_mem_cons.mpr ⟨mi_pq33, List.forall_mem_cons.mpr ⟨mi_pq34, List.forall_mem_cons.mpr ⟨mi_pq35, List.forall_mem_cons.mpr ⟨mi_pq36, List.forall_mem_cons.mpr ⟨mi_pq37, List.forall_mem_cons.mpr ⟨mi_pq38, List.forall_mem_cons.mpr ⟨mi_pq39, List.forall_mem_cons.mpr ⟨mi_pq40, List.forall_mem_cons.mpr ⟨mi_pq41, List.forall_mem_cons.mpr ⟨mi_pq42, List.forall_mem_cons.mpr ⟨mi_pq43, List.forall_mem_cons.mpr ⟨mi_pq44, List.forall_mem_cons.mpr ⟨mi_pq45, List.forall_mem_cons.mpr ⟨mi_pq46, List.forall_mem_cons.mpr ⟨mi_pq47, List.forall_mem_cons.mpr ⟨mi_pq48, List.forall_mem_cons.mpr ⟨mi_pq49, List.forall_mem_cons.mpr ⟨mi_pq50, List.forall_mem_cons.mpr ⟨mi_pq51, List.forall_mem_cons.mpr ⟨mi_pq52, List.forall_mem_cons.mpr ⟨mi_pq53, List.forall_mem_cons.mpr ⟨mi_pq54, List.forall_mem_cons.mpr ⟨mi_pq55, List.forall_mem_cons.mpr ⟨mi_pq56, List.forall_mem_cons.mpr ⟨mi_pq57, List.forall_mem_cons.mpr ⟨mi_pq58, List.forall_mem_cons.mpr ⟨mi_pq59, List.forall_mem_cons.mpr ⟨mi_pq60, List.forall_mem_cons.mpr ⟨mi_pq61, List.forall_mem_cons.mpr ⟨mi_pq62, List.forall_mem_cons.mpr ⟨mi_pq63, fun _ h => absurd h List.not_mem_nil⟩⟩⟩⟩⟩⟩⟩⟩⟩⟩⟩⟩⟩⟩⟩⟩⟩⟩⟩⟩⟩⟩⟩⟩⟩⟩⟩⟩⟩⟩⟩⟩⟩⟩⟩⟩⟩⟩⟩⟩⟩⟩⟩⟩⟩⟩⟩⟩⟩⟩⟩⟩⟩⟩⟩⟩⟩⟩⟩⟩⟩⟩⟩⟩
theorem mi_cl (k : Nat) (h : k < 13) : vwCl[k]? = some (mi_RX k, mi_T k, mi_n k) := by
  rcases (show k = 0 ∨ k = 1 ∨ k = 2 ∨ k = 3 ∨ k = 4 ∨ k = 5 ∨ k = 6 ∨ k = 7 ∨ k = 8 ∨ k = 9 ∨ k = 10 ∨ k = 11 ∨ k = 12 by omega) with rfl | rfl | rfl | rfl | rfl | rfl | rfl | rfl | rfl | rfl | rfl | rfl | rfl <;> rfl
theorem mi_Ty_ok (k : Nat) (h : k < 13) : ∀ j, j < mi_n k → parseFieldDescriptor (mi_T k j).2.2.1 = some (mi_Ty k j) := by
  rcases (show k = 0 ∨ k = 1 ∨ k = 2 ∨ k = 3 ∨ k = 4 ∨ k = 5 ∨ k = 6 ∨ k = 7 ∨ k = 8 ∨ k = 9 ∨ k = 10 ∨ k = 11 ∨ k = 12 by omega) with rfl | rfl | rfl | rfl | rfl | rfl | rfl | rfl | rfl | rfl | rfl | rfl | rfl
  · exact tyX0_ok
  · exact tyX1_ok
  · exact tyX2_ok
  · exact tyX3_ok
  · exact tyX4_ok
  · exact tyX5_ok
  · exact tyX6_ok
  · exact tyX7_ok
  · exact tyX8_ok
  · exact tyX9_ok
  · exact tyX10_ok
  · exact tyX11_ok
  · exact tyX12_ok
theorem mi_nm_ok (k : Nat) (h : k < 13) : ∀ a, a < mi_n k → ∀ b, b < mi_n k → a ≠ b → (mi_T k a).2.1 ≠ (mi_T k b).2.1 := by
  rcases (show k = 0 ∨ k = 1 ∨ k = 2 ∨ k = 3 ∨ k = 4 ∨ k = 5 ∨ k = 6 ∨ k = 7 ∨ k = 8 ∨ k = 9 ∨ k = 10 ∨ k = 11 ∨ k = 12 by omega) with rfl | rfl | rfl | rfl | rfl | rfl | rfl | rfl | rfl | rfl | rfl | rfl | rfl
  · exact nmX0
  · exact nmX1
  · exact nmX2
  · exact nmX3
  · exact nmX4
  · exact nmX5
  · exact nmX6
  · exact nmX7
  · exact nmX8
  · exact nmX9
  · exact nmX10
  · exact nmX11
  · exact nmX12
set_option maxRecDepth 100000 in
theorem mi_inw0 : u_ws RX0 TX0 10 = ([159, 161, 163, 165, 167, 169, 171, 173, 175, 177] : List Nat).filterMap (fun i => lw_tbl[i]?) := rfl
set_option maxRecDepth 100000 in
theorem mi_inw1 : u_ws RX1 TX1 5 = ([268, 270, 272, 274, 276] : List Nat).filterMap (fun i => lw_tbl[i]?) := rfl
set_option maxRecDepth 100000 in
theorem mi_inw2 : u_ws RX2 TX2 11 = ([232, 234, 236, 238, 240, 242, 244, 246, 248, 250, 252] : List Nat).filterMap (fun i => lw_tbl[i]?) := rfl
set_option maxRecDepth 100000 in
theorem mi_inw3 : u_ws RX3 TX3 2 = ([115, 117] : List Nat).filterMap (fun i => lw_tbl[i]?) := rfl
set_option maxRecDepth 100000 in
theorem mi_inw4 : u_ws RX4 TX4 7 = ([299, 301, 303, 305, 307, 309, 311] : List Nat).filterMap (fun i => lw_tbl[i]?) := rfl
set_option maxRecDepth 100000 in
theorem mi_inw5 : u_ws RX5 TX5 3 = ([342, 344, 346] : List Nat).filterMap (fun i => lw_tbl[i]?) := rfl
set_option maxRecDepth 100000 in
theorem mi_inw6 : u_ws RX6 TX6 2 = ([129, 131] : List Nat).filterMap (fun i => lw_tbl[i]?) := rfl
set_option maxRecDepth 100000 in
theorem mi_inw7 : u_ws RX7 TX7 4 = ([196, 198, 200, 202] : List Nat).filterMap (fun i => lw_tbl[i]?) := rfl
set_option maxRecDepth 100000 in
theorem mi_inw8 : u_ws RX8 TX8 6 = ([355, 357, 359, 361, 363, 365] : List Nat).filterMap (fun i => lw_tbl[i]?) := rfl
set_option maxRecDepth 100000 in
theorem mi_inw9 : u_ws RX9 TX9 4 = ([385, 387, 389, 391] : List Nat).filterMap (fun i => lw_tbl[i]?) := rfl
set_option maxRecDepth 100000 in
theorem mi_inw10 : u_ws RX10 TX10 4 = ([408, 410, 412, 414] : List Nat).filterMap (fun i => lw_tbl[i]?) := rfl
set_option maxRecDepth 100000 in
theorem mi_inw11 : u_ws RX11 TX11 8 = ([425, 427, 429, 431, 433, 435, 437, 439] : List Nat).filterMap (fun i => lw_tbl[i]?) := rfl
set_option maxRecDepth 100000 in
theorem mi_inw12 : u_ws RX12 TX12 49 = ([1161, 1163, 1165, 1167, 1169, 1171, 1173, 1175, 1177, 1179, 1181, 1183, 1185, 1187, 1189, 1191, 1193, 1195, 1197, 1199, 1201, 1203, 1205, 1207, 1209, 1211, 1213, 1215, 1217, 1219, 1221, 1223, 1225, 1227, 1229, 1231, 1233, 1235, 1237, 1239, 1241, 1243, 1245, 1247, 1249, 1251, 1253, 1255, 1257] : List Nat).filterMap (fun i => lw_tbl[i]?) := rfl
theorem mi_in_of {ws : List Cond} (ps : List Nat) (h : ws = ps.filterMap (fun i => lw_tbl[i]?)) : ∀ w ∈ ws, w ∈ lw_tbl := by
  intro w hw
  rw [h] at hw
  obtain ⟨i, -, hi⟩ := List.mem_filterMap.mp hw
  exact List.mem_of_getElem? hi
theorem mi_in (k : Nat) (h : k < 13) : ∀ w ∈ u_ws (mi_RX k) (mi_T k) (mi_n k), w ∈ lw_tbl := by
  rcases (show k = 0 ∨ k = 1 ∨ k = 2 ∨ k = 3 ∨ k = 4 ∨ k = 5 ∨ k = 6 ∨ k = 7 ∨ k = 8 ∨ k = 9 ∨ k = 10 ∨ k = 11 ∨ k = 12 by omega) with rfl | rfl | rfl | rfl | rfl | rfl | rfl | rfl | rfl | rfl | rfl | rfl | rfl
  · exact mi_in_of _ mi_inw0
  · exact mi_in_of _ mi_inw1
  · exact mi_in_of _ mi_inw2
  · exact mi_in_of _ mi_inw3
  · exact mi_in_of _ mi_inw4
  · exact mi_in_of _ mi_inw5
  · exact mi_in_of _ mi_inw6
  · exact mi_in_of _ mi_inw7
  · exact mi_in_of _ mi_inw8
  · exact mi_in_of _ mi_inw9
  · exact mi_in_of _ mi_inw10
  · exact mi_in_of _ mi_inw11
  · exact mi_in_of _ mi_inw12
