/-! the tables of the small machine: own classes 0 .. 12, the law 13; own methods by numbers -/
def mi_RX : Nat → String := fun k => ([RX0, RX1, RX2, RX3, RX4, RX5, RX6, RX7, RX8, RX9, RX10, RX11, RX12, RL] : List String).getD k ""
def mi_T : Nat → u_T := fun k => ([TX0, TX1, TX2, TX3, TX4, TX5, TX6, TX7, TX8, TX9, TX10, TX11, TX12] : List u_T).getD k TX0
def mi_Ty : Nat → Nat → FieldType := fun k => ([tyX0, tyX1, tyX2, tyX3, tyX4, tyX5, tyX6, tyX7, tyX8, tyX9, tyX10, tyX11, tyX12] : List (Nat → FieldType)).getD k tyX0
def mi_n : Nat → Nat := fun k => ([10, 5, 11, 2, 7, 3, 2, 4, 6, 4, 4, 8, 49] : List Nat).getD k 0
abbrev mi_Mt : Type := MethodName × ByteArray × Nat × Option FieldType × Nat × Bool
def mi_M0 : List mi_Mt := [(yX0_init, cX0_init, 1, none, 0, true), (yX0_clear, cX0_clear, 1, none, 0, false), (yX0_has, cX0_has, 2, (some .boolean), 0, false), (yX0_isLeaf, cX0_isLeaf, 2, (some .boolean), 0, false), (yX0_isShut, cX0_isShut, 2, (some .boolean), 0, false), (yX0_setShut, cX0_setShut, 3, none, 0, false), (yX0_takesChild, cX0_takesChild, 3, (some .boolean), 0, false), (yX0_hasCode, cX0_hasCode, 3, (some .boolean), 0, false), (yX0_add, cX0_add, 6, (some .int), 0, false), (yX0_putByCode, cX0_putByCode, 3, none, 0, false), (yX0_enterLine, cX0_enterLine, 4, none, 0, false), (yX0_totalUnder, cX0_totalUnder, 6, (some .long), 0, false), (yX0_isUnder, cX0_isUnder, 5, (some .boolean), 0, false), (yX0_totalOfKind, cX0_totalOfKind, 5, (some .long), 0, false), (yX0_told, cX0_told, 3, (some .int), 0, false), (yX1_init, cX1_init, 1, none, 1, true), (yX1_clear, cX1_clear, 1, none, 1, false), (yX1_refusesAccount, cX1_refusesAccount, 4, (some .int), 1, false), (yX1_refusesShut, cX1_refusesShut, 3, (some .int), 1, false), (yX1_refusesPeriod, cX1_refusesPeriod, 2, (some .int), 1, false), (yX1_refusesOwner, cX1_refusesOwner, 2, (some .int), 1, false), (yX1_changeOwner, cX1_changeOwner, 3, (some .int), 1, false), (yX1_refusesLine, cX1_refusesLine, 4, (some .int), 1, false), (yX1_judge, cX1_judge, 4, (some .int), 1, false), (yX1_refusesUnjudged, cX1_refusesUnjudged, 2, (some .int), 1, false), (yX1_hasShut, cX1_hasShut, 3, (some .boolean), 1, false), (yX1_goesOver, cX1_goesOver, 7, (some .boolean), 1, false), (yX1_enter, cX1_enter, 7, (some .int), 1, false), (yX1_refusesBack, cX1_refusesBack, 4, (some .int), 1, false), (yX1_turnBack, cX1_turnBack, 5, (some .int), 1, false), (yX1_refusesClose, cX1_refusesClose, 2, (some .int), 1, false), (yX1_fillClosing, cX1_fillClosing, 5, none, 1, false), (yX1_isClosedOut, cX1_isClosedOut, 3, (some .boolean), 1, false), (yX1_closePeriod, cX1_closePeriod, 4, (some .int), 1, false), (yX1_refusesReopen, cX1_refusesReopen, 3, (some .int), 1, false), (yX1_reopenPeriod, cX1_reopenPeriod, 3, (some .int), 1, false), (yX1_sumInDays, cX1_sumInDays, 4, (some .long), 1, false), (yX2_init, cX2_init, 1, none, 2, true), (yX2_clear, cX2_clear, 1, none, 2, false), (yX2_has, cX2_has, 2, (some .boolean), 2, false)]
def mi_M1 : List mi_Mt := [(yX2_add, cX2_add, 8, (some .int), 2, false), (yX2_accountOf, cX2_accountOf, 3, (some .int), 2, false), (yX2_amountOf, cX2_amountOf, 3, (some .long), 2, false), (yX2_turn, cX2_turn, 4, none, 2, false), (yX2_gather, cX2_gather, 7, none, 2, false), (yX2_ledgerLine, cX2_ledgerLine, 9, (some .long), 2, false), (yX2_toldOfLedger, cX2_toldOfLedger, 6, (some .long), 2, false), (yX2_told, cX2_told, 3, (some .int), 2, false), (yX3_init, cX3_init, 2, none, 3, true), (yX3_at, cX3_at, 2, (some .int), 3, false), (yX3_put, cX3_put, 3, none, 3, false), (yX4_init, cX4_init, 1, none, 4, true), (yX4_begin, cX4_begin, 2, none, 4, false), (yX4_number, cX4_number, 7, none, 4, false), (yX4_write, cX4_write, 3, (some .boolean), 4, false), (yX4_put, cX4_put, 2, none, 4, false), (yX4_checkOf, cX4_checkOf, 6, (some .int), 4, false), (yX4_recordAt, cX4_recordAt, 5, (some .int), 4, false), (yX4_makeDurable, cX4_makeDurable, 2, (some .int), 4, false), (yX4_tear, cX4_tear, 4, none, 4, false), (yX4_cut, cX4_cut, 3, none, 4, false), (yX5_init, cX5_init, 2, none, 5, true), (yX5_clear, cX5_clear, 1, none, 5, false), (yX5_add, cX5_add, 4, none, 5, false), (yX5_total, cX5_total, 4, (some .long), 5, false), (yX6_init, cX6_init, 2, none, 6, true), (yX6_at, cX6_at, 2, (some .long), 6, false), (yX6_put, cX6_put, 4, none, 6, false), (yX6_clear, cX6_clear, 1, none, 6, false), (yX7_init, cX7_init, 1, none, 7, true), (yX7_clear, cX7_clear, 1, none, 7, false), (yX7_has, cX7_has, 2, (some .boolean), 7, false), (yX7_add, cX7_add, 3, (some .int), 7, false), (yX7_firstDay, cX7_firstDay, 2, (some .int), 7, false), (yX7_lastDay, cX7_lastDay, 2, (some .int), 7, false), (yX7_firstFreeDay, cX7_firstFreeDay, 1, (some .int), 7, false), (yX7_withDay, cX7_withDay, 3, (some .int), 7, false), (yX7_closingOf, cX7_closingOf, 2, (some .int), 7, false), (yX7_closeFirstOpen, cX7_closeFirstOpen, 2, none, 7, false), (yX7_openLastClosed, cX7_openLastClosed, 1, none, 7, false)]
def mi_M2 : List mi_Mt := [(yX7_told, cX7_told, 3, (some .int), 7, false), (yX8_init, cX8_init, 3, none, 8, true), (yX8_redo, cX8_redo, 3, (some .boolean), 8, false), (yX8_redoAccount, cX8_redoAccount, 5, (some .boolean), 8, false), (yX8_redoShut, cX8_redoShut, 3, (some .boolean), 8, false), (yX8_redoPeriod, cX8_redoPeriod, 2, (some .boolean), 8, false), (yX8_redoOwner, cX8_redoOwner, 2, (some .boolean), 8, false), (yX8_redoPost, cX8_redoPost, 3, (some .boolean), 8, false), (yX8_readLines, cX8_readLines, 6, (some .boolean), 8, false), (yX8_redoBack, cX8_redoBack, 3, (some .boolean), 8, false), (yX8_redoClose, cX8_redoClose, 1, (some .boolean), 8, false), (yX8_redoReopen, cX8_redoReopen, 1, (some .boolean), 8, false), (yX8_isReadWhole, cX8_isReadWhole, 1, (some .boolean), 8, false), (yX8_nextFlag, cX8_nextFlag, 3, (some .boolean), 8, false), (yX8_nextInt, cX8_nextInt, 3, (some .int), 8, false), (yX8_nextNumber, cX8_nextNumber, 5, (some .long), 8, false), (yX9_init, cX9_init, 1, none, 9, true), (yX9_clear, cX9_clear, 1, none, 9, false), (yX9_add, cX9_add, 2, none, 9, false), (yX9_divide, cX9_divide, 10, (some .boolean), 9, false), (yX9_giveRest, cX9_giveRest, 9, none, 9, false), (yX9_withGreatestRemainder, cX9_withGreatestRemainder, 3, (some .int), 9, false), (yX10_init, cX10_init, 2, none, 10, true), (yX10_clear, cX10_clear, 1, none, 10, false), (yX10_write, cX10_write, 3, (some .boolean), 10, false), (yX10_writeLeaves, cX10_writeLeaves, 3, none, 10, false), (yX10_writeUnder, cX10_writeUnder, 7, none, 10, false), (yX10_writeKinds, cX10_writeKinds, 6, none, 10, false), (yX10_writeTotal, cX10_writeTotal, 4, none, 10, false), (yX10_writeRow, cX10_writeRow, 3, none, 10, false), (yX10_putMoney, cX10_putMoney, 7, none, 10, false), (yX10_put, cX10_put, 2, none, 10, false), (yX11_init, cX11_init, 1, none, 11, true), (yX11_account, cX11_account, 6, (some .int), 11, false), (yX11_shut, cX11_shut, 4, (some .int), 11, false), (yX11_period, cX11_period, 3, (some .int), 11, false), (yX11_owner, cX11_owner, 3, (some .int), 11, false), (yX11_line, cX11_line, 5, (some .int), 11, false), (yX11_drop, cX11_drop, 2, (some .int), 11, false), (yX11_post, cX11_post, 3, (some .int), 11, false)]
def mi_M3 : List mi_Mt := [(yX11_back, cX11_back, 4, (some .int), 11, false), (yX11_close, cX11_close, 2, (some .int), 11, false), (yX11_reopen, cX11_reopen, 2, (some .int), 11, false), (yX11_share, cX11_share, 7, (some .int), 11, false), (yX11_sync, cX11_sync, 1, (some .int), 11, false), (yX11_crash, cX11_crash, 3, (some .int), 11, false), (yX11_recover, cX11_recover, 4, (some .int), 11, false), (yX11_byteAt, cX11_byteAt, 2, (some .int), 11, false), (yX11_of, cX11_of, 3, (some .int), 11, false), (yX11_balance, cX11_balance, 2, (some .long), 11, false), (yX11_sum, cX11_sum, 4, (some .long), 11, false), (yX11_entry, cX11_entry, 3, (some .int), 11, false), (yX11_lineOf, cX11_lineOf, 4, (some .long), 11, false), (yX11_ledger, cX11_ledger, 4, (some .long), 11, false), (yX11_periodOf, cX11_periodOf, 3, (some .int), 11, false), (yX11_sheet, cX11_sheet, 2, (some .int), 11, false), (yX11_shown, cX11_shown, 2, (some .int), 11, false), (yX11_part, cX11_part, 8, (some .long), 11, false), (yX11_count, cX11_count, 2, (some .int), 11, false), (yX11_countOfBooks, cX11_countOfBooks, 2, (some .int), 11, false), (yX11_writePlain, cX11_writePlain, 6, (some .int), 11, false), (yX11_refusesShare, cX11_refusesShare, 4, (some .int), 11, false), (yX11_shareOut, cX11_shareOut, 5, none, 11, false), (yX11_areWeights, cX11_areWeights, 4, (some .boolean), 11, false), (yX11_isPartWeight, cX11_isPartWeight, 1, (some .boolean), 11, false), (yX11_isAmount, cX11_isAmount, 2, (some .boolean), 11, false), (yX11_isWithin, cX11_isWithin, 4, (some .boolean), 11, false), (yX12_init, cX12_init, 1, none, 12, true), (yX12_in, cX12_in, 6, (some .boolean), 12, false), (yX12_isAccount, cX12_isAccount, 2, (some .boolean), 12, false), (yX12_begin, cX12_begin, 1, none, 12, false), (yX12_say, cX12_say, 5, none, 12, false), (yX12_hasRoom, cX12_hasRoom, 1, (some .boolean), 12, false), (yX12_checked, cX12_checked, 4, (some .int), 12, false), (yX12_append, cX12_append, 2, none, 12, false), (yX12_write, cX12_write, 4, none, 12, false), (yX12_isTold, cX12_isTold, 4, (some .boolean), 12, false), (yX12_account, cX12_account, 6, (some .int), 12, false), (yX12_shut, cX12_shut, 3, (some .int), 12, false), (yX12_firstDay, cX12_firstDay, 2, (some .int), 12, false)]
def mi_M4 : List mi_Mt := [(yX12_period, cX12_period, 2, (some .int), 12, false), (yX12_owner, cX12_owner, 3, (some .int), 12, false), (yX12_line, cX12_line, 4, (some .int), 12, false), (yX12_drop, cX12_drop, 2, (some .int), 12, false), (yX12_hand, cX12_hand, 4, none, 12, false), (yX12_periodAt, cX12_periodAt, 4, (some .int), 12, false), (yX12_isOver, cX12_isOver, 5, (some .boolean), 12, false), (yX12_judged, cX12_judged, 6, (some .int), 12, false), (yX12_enter, cX12_enter, 7, (some .int), 12, false), (yX12_sayPost, cX12_sayPost, 4, none, 12, false), (yX12_posted, cX12_posted, 5, (some .int), 12, false), (yX12_post, cX12_post, 4, (some .int), 12, false), (yX12_back, cX12_back, 5, (some .int), 12, false), (yX12_turned, cX12_turned, 3, none, 12, false), (yX12_sumOf, cX12_sumOf, 8, (some .long), 12, false), (yX12_nextCode, cX12_nextCode, 4, (some .int), 12, false), (yX12_close, cX12_close, 7, (some .int), 12, false), (yX12_reopen, cX12_reopen, 3, (some .int), 12, false), (yX12_shares, cX12_shares, 10, none, 12, false), (yX12_share, cX12_share, 8, (some .int), 12, false), (yX12_part, cX12_part, 8, (some .long), 12, false), (yX12_sync, cX12_sync, 2, (some .int), 12, false), (yX12_crash, cX12_crash, 4, (some .int), 12, false), (yX12_number, cX12_number, 7, (some .long), 12, false), (yX12_whole, cX12_whole, 3, (some .int), 12, false), (yX12_truth, cX12_truth, 2, (some .boolean), 12, false), (yX12_isEnded, cX12_isEnded, 1, (some .boolean), 12, false), (yX12_isDone, cX12_isDone, 12, (some .boolean), 12, false), (yX12_isPosted, cX12_isPosted, 9, (some .boolean), 12, false), (yX12_isNext, cX12_isNext, 5, (some .boolean), 12, false), (yX12_recover, cX12_recover, 2, (some .int), 12, false), (yX12_byteAt, cX12_byteAt, 2, (some .int), 12, false), (yX12_of, cX12_of, 5, (some .int), 12, false), (yX12_isUnder, cX12_isUnder, 4, (some .boolean), 12, false), (yX12_balanceOf, cX12_balanceOf, 5, (some .long), 12, false), (yX12_balance, cX12_balance, 2, (some .long), 12, false), (yX12_sum, cX12_sum, 7, (some .long), 12, false), (yX12_entry, cX12_entry, 3, (some .int), 12, false), (yX12_lineOf, cX12_lineOf, 4, (some .long), 12, false), (yX12_ledger, cX12_ledger, 9, (some .long), 12, false)]
def mi_M5 : List mi_Mt := [(yX12_periodOf, cX12_periodOf, 3, (some .int), 12, false), (yX12_put, cX12_put, 2, none, 12, false), (yX12_money, cX12_money, 7, none, 12, false), (yX12_row, cX12_row, 3, none, 12, false), (yX12_tree, cX12_tree, 5, none, 12, false), (yX12_ofKind, cX12_ofKind, 5, (some .long), 12, false), (yX12_total, cX12_total, 3, none, 12, false), (yX12_sheet, cX12_sheet, 3, (some .int), 12, false), (yX12_shown, cX12_shown, 2, (some .int), 12, false), (yX12_count, cX12_count, 3, (some .int), 12, false), (yL_law, cL_law, maxLocals, ret, 13, false)]
def mi_M : List mi_Mt := mi_M0 ++ (mi_M1 ++ (mi_M2 ++ (mi_M3 ++ (mi_M4 ++ (mi_M5)))))
def mi_M_0 : mi_Mt := (yL_law, cL_law, 0, none, 99, false)
def mi_m (y : Nat) : mi_Mt := mi_M.getD y mi_M_0
def mi_N (y : Nat) : MethodName := (mi_m y).1
def mi_B (y : Nat) : ByteArray := (mi_m y).2.1
def mi_L (y : Nat) : Nat := (mi_m y).2.2.1
def mi_R (y : Nat) : Option FieldType := (mi_m y).2.2.2.1
def mi_O (y : Nat) : Nat := (mi_m y).2.2.2.2.1
def mi_X (y : Nat) : Bool := (mi_m y).2.2.2.2.2
/-- own class, pool place; method, how many values it takes, kind (0 virtual, 1 static, 2 ctor, 3 ctor of a nest mate, 4 static of a nest mate); places of the words -/
def mi_tC : List (Nat × Nat × Nat × Nat × Nat × Nat × Nat × Nat × Nat × Nat) := [(13, 9, 112, 1, 2, 87, 88, 0, 69, 89), (11, 25, 81, 3, 2, 314, 315, 0, 77, 316), (8, 11, 61, 2, 2, 320, 321, 0, 78, 322), (11, 34, 61, 2, 2, 367, 321, 0, 78, 322), (11, 57, 102, 2, 2, 394, 395, 0, 80, 396), (13, 13, 113, 5, 0, 440, 441, 442, 69, 443), (11, 68, 17, 4, 0, 444, 445, 446, 70, 447), (1, 50, 2, 2, 0, 448, 449, 450, 71, 451), (1, 54, 6, 3, 0, 452, 453, 454, 71, 455), (1, 58, 7, 2, 0, 460, 461, 462, 71, 463), (11, 72, 52, 2, 0, 464, 465, 466, 76, 467), (11, 75, 53, 2, 0, 468, 469, 470, 76, 471), (11, 79, 54, 1, 0, 497, 498, 499, 76, 500), (4, 39, 55, 2, 0, 501, 503, 0, 76, 504), (4, 45, 56, 3, 0, 506, 508, 1, 76, 509), (11, 83, 8, 5, 0, 512, 513, 514, 71, 515), (0, 67, 9, 2, 0, 531, 533, 2, 71, 534), (13, 18, 114, 3, 0, 535, 536, 537, 69, 538), (11, 89, 18, 3, 0, 539, 540, 541, 70, 542), (1, 64, 3, 2, 0, 543, 544, 545, 71, 546), (0, 52, 2, 2, 0, 547, 449, 450, 71, 451), (1, 67, 4, 2, 0, 548, 549, 550, 71, 551), (11, 93, 5, 3, 0, 552, 553, 554, 71, 555), (13, 23, 115, 2, 0, 556, 557, 558, 69, 559), (11, 97, 19, 2, 0, 560, 561, 562, 70, 563), (1, 70, 75, 1, 0, 564, 565, 566, 74, 567), (7, 38, 73, 2, 0, 568, 569, 570, 74, 571), (11, 105, 72, 2, 0, 573, 574, 575, 74, 576), (13, 28, 116, 2, 0, 578, 579, 580, 69, 581), (11, 109, 20, 2, 0, 582, 583, 584, 70, 585), (11, 112, 21, 2, 0, 587, 588, 589, 70, 590), (13, 34, 117, 3, 0, 591, 592, 593, 69, 594), (11, 115, 22, 3, 0, 595, 596, 597, 70, 598), (11, 244, 146, 2, 1, 603, 604, 0, 69, 605), (11, 123, 63, 3, 0, 606, 607, 608, 78, 609), (13, 39, 118, 1, 0, 612, 613, 614, 69, 615), (11, 126, 62, 1, 0, 616, 617, 618, 78, 619), (13, 44, 119, 3, 0, 620, 621, 622, 69, 623), (11, 129, 140, 4, 0, 624, 626, 3, 69, 627), (11, 284, 23, 3, 0, 628, 629, 630, 70, 631), (1, 92, 64, 1, 0, 632, 633, 634, 78, 635), (1, 96, 76, 2, 0, 640, 641, 642, 74, 643), (1, 102, 25, 2, 0, 644, 646, 4, 70, 647), (1, 106, 24, 2, 0, 648, 650, 5, 70, 651), (1, 110, 26, 2, 0, 652, 654, 6, 70, 655), (11, 293, 27, 6, 0, 661, 662, 663, 70, 664), (1, 131, 10, 3, 0, 665, 666, 667, 71, 668), (1, 135, 40, 6, 0, 670, 671, 672, 75, 673), (13, 49, 120, 3, 0, 678, 679, 680, 69, 681), (11, 133, 28, 4, 0, 682, 683, 684, 70, 685), (1, 139, 39, 2, 0, 686, 687, 688, 75, 689), (1, 146, 43, 3, 0, 690, 691, 692, 75, 693), (2, 78, 62, 1, 0, 694, 617, 618, 78, 619), (2, 81, 41, 3, 0, 695, 696, 697, 75, 698), (2, 85, 42, 3, 0, 699, 700, 701, 75, 702), (2, 89, 63, 3, 0, 703, 607, 608, 78, 609), (1, 150, 23, 3, 0, 704, 629, 630, 70, 631), (11, 137, 29, 4, 0, 705, 706, 707, 70, 708), (1, 157, 27, 6, 0, 709, 662, 663, 70, 664), (13, 53, 121, 1, 0, 711, 712, 713, 69, 714), (11, 140, 30, 2, 0, 715, 716, 717, 70, 718), (1, 164, 31, 3, 0, 719, 721, 7, 70, 722), (1, 167, 73, 2, 0, 723, 569, 570, 74, 571), (1, 170, 74, 2, 0, 724, 725, 726, 74, 727), (1, 173, 44, 4, 0, 728, 729, 730, 75, 731), (1, 177, 62, 1, 0, 739, 617, 618, 78, 619), (1, 181, 32, 2, 0, 740, 742, 8, 70, 743), (1, 184, 63, 3, 0, 744, 607, 608, 78, 609), (11, 144, 33, 2, 0, 745, 746, 747, 70, 748), (1, 186, 78, 2, 0, 749, 750, 751, 74, 752), (13, 57, 122, 1, 0, 753, 754, 755, 69, 756), (11, 147, 34, 2, 0, 757, 758, 759, 70, 760), (1, 189, 77, 2, 0, 761, 762, 763, 74, 764), (11, 150, 35, 2, 0, 765, 766, 767, 70, 768), (1, 192, 79, 1, 0, 769, 770, 771, 74, 772), (13, 61, 123, 5, 0, 773, 774, 775, 69, 776), (11, 153, 141, 3, 0, 777, 779, 9, 69, 780), (11, 189, 2, 2, 0, 781, 449, 450, 71, 451), (11, 297, 145, 1, 1, 782, 600, 0, 69, 601), (11, 300, 143, 1, 1, 783, 784, 0, 69, 785), (11, 229, 3, 2, 0, 787, 544, 545, 71, 546), (11, 156, 142, 3, 0, 788, 790, 10, 69, 791), (11, 251, 97, 1, 0, 792, 793, 794, 79, 795), (11, 252, 98, 2, 0, 796, 797, 798, 79, 799), (11, 254, 99, 2, 0, 801, 802, 803, 79, 804), (9, 54, 100, 2, 0, 811, 813, 11, 79, 814), (9, 60, 101, 1, 0, 816, 818, 12, 79, 819), (13, 66, 124, 1, 0, 820, 821, 822, 69, 823), (11, 159, 58, 1, 0, 824, 825, 826, 76, 827), (13, 70, 125, 3, 0, 828, 829, 830, 69, 831), (11, 163, 59, 3, 0, 832, 833, 834, 76, 835), (11, 167, 103, 1, 0, 837, 838, 839, 80, 840), (13, 74, 126, 1, 0, 841, 842, 843, 69, 844), (11, 169, 16, 1, 0, 845, 846, 847, 70, 848), (1, 45, 1, 1, 0, 849, 850, 851, 71, 852), (1, 48, 70, 1, 0, 853, 854, 855, 74, 856), (1, 49, 38, 1, 0, 857, 858, 859, 75, 860), (11, 170, 57, 2, 0, 861, 862, 863, 76, 864), (11, 173, 82, 3, 0, 865, 866, 867, 77, 868), (8, 50, 83, 1, 0, 870, 872, 13, 77, 873), (8, 75, 94, 1, 0, 874, 876, 14, 77, 877), (8, 140, 95, 1, 0, 878, 880, 15, 77, 881), (8, 79, 93, 1, 0, 882, 884, 16, 77, 885), (8, 82, 92, 1, 0, 886, 888, 17, 77, 889), (8, 85, 17, 4, 0, 890, 445, 446, 70, 447), (8, 95, 8, 5, 0, 891, 513, 514, 71, 515), (8, 54, 84, 1, 0, 892, 894, 18, 77, 895), (8, 101, 18, 3, 0, 896, 540, 541, 70, 542), (8, 105, 5, 3, 0, 897, 553, 554, 71, 555), (8, 57, 85, 1, 0, 898, 900, 19, 77, 901), (8, 109, 19, 2, 0, 902, 561, 562, 70, 563), (8, 116, 72, 2, 0, 903, 574, 575, 74, 576), (8, 60, 86, 1, 0, 904, 906, 20, 77, 907), (8, 120, 20, 2, 0, 908, 583, 584, 70, 585), (8, 123, 21, 2, 0, 909, 588, 589, 70, 590), (8, 63, 87, 1, 0, 910, 912, 21, 77, 913), (8, 126, 88, 1, 0, 914, 916, 22, 77, 917), (8, 137, 62, 1, 0, 918, 617, 618, 78, 619), (8, 144, 22, 3, 0, 919, 596, 597, 70, 598), (8, 148, 63, 3, 0, 920, 607, 608, 78, 609), (8, 129, 23, 3, 0, 921, 629, 630, 70, 631), (8, 133, 27, 6, 0, 922, 662, 663, 70, 664), (8, 66, 89, 1, 0, 923, 925, 23, 77, 926), (8, 151, 28, 4, 0, 927, 683, 684, 70, 685), (8, 155, 29, 4, 0, 928, 706, 707, 70, 708), (8, 69, 90, 1, 0, 929, 931, 24, 77, 932), (8, 158, 30, 2, 0, 933, 716, 717, 70, 718), (8, 162, 33, 2, 0, 934, 746, 747, 70, 748), (8, 72, 91, 1, 0, 935, 937, 25, 77, 938), (8, 165, 34, 2, 0, 939, 758, 759, 70, 760), (8, 168, 35, 2, 0, 940, 766, 767, 70, 768), (11, 177, 60, 3, 0, 941, 942, 943, 76, 944), (13, 78, 127, 2, 0, 945, 946, 947, 69, 948), (13, 82, 128, 3, 0, 949, 950, 951, 69, 952), (11, 193, 14, 3, 0, 953, 954, 955, 71, 956), (13, 86, 129, 2, 0, 957, 958, 959, 69, 960), (11, 203, 11, 3, 0, 962, 963, 964, 71, 965), (0, 73, 3, 2, 0, 966, 544, 545, 71, 546), (0, 76, 12, 3, 0, 967, 969, 26, 71, 970), (13, 91, 130, 4, 0, 971, 972, 973, 69, 974), (11, 207, 36, 4, 0, 975, 976, 977, 70, 978), (1, 195, 11, 3, 0, 979, 963, 964, 71, 965), (13, 96, 131, 3, 0, 980, 981, 982, 69, 983), (11, 215, 39, 2, 0, 984, 687, 688, 75, 689), (11, 218, 47, 3, 0, 985, 986, 987, 75, 988), (13, 100, 132, 4, 0, 989, 990, 991, 69, 992), (11, 222, 41, 3, 0, 993, 696, 697, 75, 698), (11, 225, 42, 3, 0, 994, 700, 701, 75, 702), (13, 104, 133, 4, 0, 995, 996, 997, 69, 998), (11, 233, 45, 4, 0, 999, 1000, 1001, 75, 1002), (2, 93, 46, 4, 1, 1003, 1004, 0, 75, 1005), (13, 108, 134, 3, 0, 1007, 1008, 1009, 69, 1010), (11, 236, 71, 2, 0, 1011, 1012, 1013, 74, 1014), (11, 237, 80, 3, 0, 1015, 1016, 1017, 74, 1018), (7, 41, 74, 2, 0, 1019, 725, 726, 74, 727), (7, 44, 77, 2, 0, 1020, 762, 763, 74, 764), (13, 112, 135, 2, 0, 1021, 1022, 1023, 69, 1024), (11, 238, 104, 2, 0, 1025, 1026, 1027, 80, 1028), (10, 31, 103, 1, 0, 1029, 838, 839, 80, 840), (10, 34, 105, 1, 0, 1030, 1032, 27, 80, 1033), (10, 54, 3, 2, 0, 1035, 544, 545, 71, 546), (10, 67, 109, 2, 0, 1037, 1039, 28, 80, 1040), (10, 87, 111, 2, 0, 1041, 1043, 29, 80, 1044), (10, 100, 11, 3, 0, 1046, 963, 964, 71, 965), (10, 90, 110, 2, 0, 1047, 1049, 30, 80, 1050), (10, 37, 106, 4, 1, 1053, 1054, 0, 80, 1055), (10, 41, 107, 1, 0, 1056, 1058, 31, 80, 1059), (10, 76, 13, 2, 0, 1060, 1061, 1062, 71, 1063), (10, 83, 108, 3, 0, 1066, 1068, 32, 80, 1069), (13, 116, 136, 2, 0, 1070, 1071, 1072, 69, 1073), (13, 120, 137, 7, 0, 1074, 1075, 1076, 69, 1077), (11, 248, 144, 1, 1, 1078, 1079, 0, 69, 1080), (13, 125, 138, 2, 0, 1081, 1082, 1083, 69, 1084), (11, 272, 139, 2, 0, 1085, 1087, 33, 69, 1088), (13, 12, 147, 1, 2, 1091, 1092, 0, 81, 1093), (13, 17, 157, 5, 0, 1244, 1245, 1246, 81, 1247), (12, 148, 149, 2, 0, 1248, 1250, 34, 81, 1251), (12, 116, 148, 3, 1, 1252, 1253, 0, 81, 1254), (12, 156, 156, 2, 0, 1257, 1259, 35, 81, 1260), (12, 159, 150, 1, 0, 1261, 1263, 36, 81, 1264), (12, 162, 151, 2, 0, 1265, 1267, 37, 81, 1268), (12, 166, 152, 1, 0, 1272, 1274, 38, 81, 1275), (12, 170, 155, 2, 0, 1276, 1278, 39, 81, 1279), (12, 140, 153, 2, 1, 1281, 1282, 0, 81, 1283), (12, 144, 154, 2, 0, 1285, 1287, 40, 81, 1288), (13, 22, 158, 3, 0, 1289, 1290, 1291, 81, 1292), (13, 27, 160, 2, 0, 1293, 1294, 1295, 81, 1296), (12, 176, 159, 2, 0, 1297, 1299, 41, 81, 1300), (13, 31, 161, 2, 0, 1301, 1302, 1303, 81, 1304), (13, 38, 162, 3, 0, 1305, 1306, 1307, 81, 1308), (13, 43, 163, 1, 0, 1311, 1312, 1313, 81, 1314), (13, 48, 171, 3, 0, 1315, 1316, 1317, 81, 1318), (12, 217, 164, 3, 0, 1319, 1321, 42, 81, 1322), (12, 221, 170, 3, 0, 1323, 1325, 43, 81, 1326), (12, 206, 169, 3, 0, 1327, 1329, 44, 81, 1330), (12, 210, 167, 2, 0, 1331, 1333, 45, 81, 1334), (12, 194, 165, 2, 0, 1335, 1337, 46, 81, 1338), (12, 200, 166, 1, 0, 1339, 1341, 47, 81, 1342), (12, 213, 168, 5, 0, 1345, 1347, 48, 81, 1348), (13, 52, 172, 3, 0, 1349, 1350, 1351, 81, 1352), (12, 224, 173, 2, 0, 1353, 1355, 49, 81, 1356), (13, 56, 176, 1, 0, 1357, 1358, 1359, 81, 1360), (12, 227, 175, 2, 0, 1361, 1363, 50, 81, 1364), (12, 230, 174, 4, 0, 1365, 1367, 51, 81, 1368), (13, 60, 177, 1, 0, 1369, 1370, 1371, 81, 1372), (13, 65, 179, 5, 0, 1373, 1374, 1375, 81, 1376), (12, 241, 178, 2, 0, 1378, 1380, 52, 81, 1381), (13, 124, 180, 7, 0, 1383, 1384, 1385, 81, 1386), (13, 69, 181, 1, 0, 1389, 1390, 1391, 81, 1392), (13, 73, 182, 3, 0, 1393, 1394, 1395, 81, 1396), (13, 77, 190, 1, 0, 1398, 1399, 1400, 81, 1401), (12, 313, 189, 1, 0, 1402, 1404, 53, 81, 1405), (12, 310, 187, 2, 0, 1406, 1408, 54, 81, 1409), (12, 273, 184, 1, 0, 1410, 1412, 55, 81, 1413), (12, 265, 183, 1, 0, 1414, 1416, 56, 81, 1417), (12, 277, 185, 1, 0, 1420, 1422, 57, 81, 1423), (12, 280, 186, 1, 0, 1424, 1426, 58, 81, 1427), (12, 283, 157, 5, 0, 1428, 1245, 1246, 81, 1247), (12, 287, 158, 3, 0, 1429, 1290, 1291, 81, 1292), (12, 291, 160, 2, 0, 1430, 1294, 1295, 81, 1296), (12, 294, 161, 2, 0, 1431, 1302, 1303, 81, 1304), (12, 296, 188, 1, 0, 1432, 1434, 59, 81, 1435), (12, 299, 172, 3, 0, 1437, 1350, 1351, 81, 1352), (12, 302, 176, 1, 0, 1438, 1358, 1359, 81, 1360), (12, 305, 177, 1, 0, 1439, 1370, 1371, 81, 1372), (13, 81, 191, 2, 0, 1440, 1441, 1442, 81, 1443), (13, 85, 192, 3, 0, 1444, 1445, 1446, 81, 1447), (13, 90, 195, 2, 0, 1448, 1449, 1450, 81, 1451), (12, 320, 194, 2, 0, 1452, 1454, 60, 81, 1455), (12, 316, 193, 3, 0, 1456, 1458, 61, 81, 1459), (13, 95, 196, 4, 0, 1460, 1461, 1462, 81, 1463), (13, 99, 197, 3, 0, 1464, 1465, 1466, 81, 1467), (13, 103, 198, 4, 0, 1468, 1469, 1470, 81, 1471), (13, 107, 199, 4, 0, 1472, 1473, 1474, 81, 1475), (13, 111, 200, 3, 0, 1476, 1477, 1478, 81, 1479), (13, 115, 207, 2, 0, 1480, 1481, 1482, 81, 1483), (12, 332, 203, 2, 0, 1484, 1486, 62, 81, 1487), (12, 324, 201, 2, 0, 1488, 1490, 63, 81, 1491), (12, 329, 202, 2, 0, 1492, 1494, 64, 81, 1495), (12, 338, 204, 1, 0, 1497, 1499, 65, 81, 1500), (12, 341, 206, 3, 0, 1501, 1503, 66, 81, 1504), (12, 335, 205, 2, 0, 1505, 1507, 67, 81, 1508), (13, 119, 208, 2, 0, 1509, 1510, 1511, 81, 1512), (13, 128, 209, 2, 0, 1513, 1514, 1515, 81, 1516), (11, 9, 15, 1, 3, 95, 96, 0, 70, 97), (1, 11, 0, 1, 3, 101, 102, 0, 71, 103), (1, 20, 69, 1, 3, 180, 181, 0, 74, 182), (1, 27, 37, 1, 3, 205, 206, 0, 75, 207), (11, 18, 51, 1, 3, 279, 280, 0, 76, 281), (11, 46, 96, 1, 3, 370, 371, 0, 79, 372), (1, 85, 145, 1, 4, 599, 600, 0, 69, 601), (1, 127, 146, 2, 4, 658, 604, 0, 69, 605)]
/-- own class, pool place; which of the rows given for whole (0 .. 11); place of the word -/
def mi_tQ : List (Nat × Nat × Nat × Nat) := [(11, 1, 11, 90), (1, 3, 11, 98), (0, 3, 11, 104), (0, 11, 0, 107), (3, 1, 11, 110), (0, 37, 3, 121), (6, 1, 11, 124), (7, 3, 11, 183), (7, 11, 0, 185), (2, 3, 11, 208), (2, 11, 0, 210), (2, 43, 3, 212), (1, 38, 3, 254), (4, 3, 11, 282), (4, 11, 0, 284), (8, 3, 11, 317), (5, 1, 11, 323), (5, 9, 0, 325), (5, 20, 3, 327), (9, 3, 11, 373), (9, 11, 3, 375), (9, 22, 0, 377), (10, 3, 11, 397), (10, 11, 0, 399), (0, 56, 1, 456), (4, 32, 2, 473), (3, 17, 9, 477), (3, 23, 10, 480), (4, 41, 1, 505), (0, 60, 2, 516), (0, 64, 5, 517), (6, 17, 9, 521), (6, 23, 10, 522), (7, 34, 1, 572), (7, 30, 2, 577), (1, 79, 1, 586), (5, 29, 2, 610), (5, 33, 5, 611), (5, 36, 4, 636), (1, 119, 4, 656), (11, 184, 1, 659), (11, 261, 4, 660), (0, 70, 4, 669), (2, 55, 2, 674), (2, 65, 1, 675), (2, 72, 4, 676), (2, 75, 5, 677), (1, 160, 2, 710), (2, 92, 7, 732), (9, 34, 2, 800), (9, 38, 1, 805), (9, 42, 5, 806), (9, 45, 8, 807), (9, 51, 4, 810), (4, 57, 9, 836), (8, 45, 1, 869), (10, 50, 1, 1034), (10, 62, 4, 1036), (10, 112, 2, 1045), (10, 104, 8, 1051), (12, 1, 11, 1094)]
def mi_tF : List (Nat × Nat × Nat × Nat × Nat) := [(0, 14, 0, 0, 133), (10, 97, 0, 0, 134), (0, 20, 0, 1, 135), (10, 73, 0, 1, 136), (1, 75, 0, 1, 137), (0, 23, 0, 2, 138), (10, 70, 0, 2, 139), (0, 26, 0, 3, 140), (10, 94, 0, 3, 141), (0, 29, 0, 4, 142), (11, 232, 0, 4, 143), (0, 32, 0, 5, 144), (10, 47, 0, 5, 145), (1, 178, 0, 5, 146), (0, 38, 0, 6, 147), (10, 58, 0, 6, 148), (1, 116, 0, 6, 149), (11, 199, 0, 6, 150), (0, 42, 0, 7, 151), (0, 45, 0, 8, 152), (0, 48, 0, 9, 153), (1, 61, 0, 9, 154), (10, 44, 0, 9, 155), (11, 275, 0, 9, 156), (7, 14, 7, 0, 186), (7, 20, 7, 1, 187), (7, 23, 7, 2, 188), (1, 74, 7, 2, 189), (11, 276, 7, 2, 190), (7, 27, 7, 3, 191), (1, 99, 7, 3, 192), (11, 277, 7, 3, 193), (2, 14, 2, 0, 213), (2, 20, 2, 1, 214), (1, 154, 2, 1, 215), (2, 23, 2, 2, 216), (1, 140, 2, 2, 217), (2, 26, 2, 3, 218), (11, 219, 2, 3, 219), (2, 29, 2, 4, 220), (1, 143, 2, 4, 221), (2, 32, 2, 5, 222), (2, 35, 2, 6, 223), (2, 38, 2, 7, 224), (2, 44, 2, 8, 225), (2, 48, 2, 9, 226), (1, 113, 2, 9, 227), (11, 280, 2, 9, 228), (2, 52, 2, 10, 229), (1, 12, 1, 0, 255), (11, 53, 1, 0, 256), (8, 91, 1, 0, 257), (1, 21, 1, 1, 258), (11, 101, 1, 1, 259), (8, 112, 1, 1, 260), (1, 28, 1, 2, 261), (11, 211, 1, 2, 262), (1, 32, 1, 3, 263), (11, 281, 1, 3, 264), (1, 41, 1, 4, 265), (4, 14, 4, 0, 285), (8, 39, 4, 0, 286), (11, 180, 4, 0, 287), (4, 20, 4, 1, 288), (4, 27, 4, 2, 289), (4, 23, 4, 3, 290), (4, 36, 4, 4, 291), (11, 168, 4, 4, 292), (4, 54, 4, 5, 293), (11, 266, 4, 5, 294), (4, 49, 4, 6, 295), (11, 269, 4, 6, 296), (5, 12, 5, 0, 328), (2, 62, 5, 0, 329), (1, 114, 5, 0, 330), (11, 288, 5, 0, 331), (5, 21, 5, 1, 332), (2, 69, 5, 1, 333), (1, 122, 5, 1, 334), (11, 290, 5, 1, 335), (5, 25, 5, 2, 336), (2, 59, 5, 2, 337), (11, 119, 5, 2, 338), (1, 89, 5, 2, 339), (8, 20, 8, 0, 347), (8, 24, 8, 1, 348), (8, 14, 8, 2, 349), (8, 28, 8, 3, 350), (8, 32, 8, 4, 351), (8, 35, 8, 5, 352), (9, 14, 9, 0, 378), (11, 258, 9, 0, 379), (9, 23, 9, 1, 380), (9, 27, 9, 2, 381), (9, 30, 9, 3, 382), (10, 14, 10, 0, 400), (11, 241, 10, 0, 401), (10, 23, 10, 1, 402), (10, 20, 10, 2, 403), (10, 27, 10, 3, 404), (11, 240, 10, 3, 405), (11, 10, 11, 0, 415), (11, 19, 11, 1, 416), (11, 28, 11, 2, 417), (11, 37, 11, 3, 418), (11, 41, 11, 4, 419), (11, 47, 11, 5, 420), (11, 60, 11, 6, 421), (11, 64, 11, 7, 422), (12, 7, 12, 0, 1095), (12, 129, 12, 1, 1096), (12, 113, 12, 2, 1097), (12, 13, 12, 3, 1098), (12, 17, 12, 4, 1099), (12, 20, 12, 5, 1100), (12, 23, 12, 6, 1101), (12, 27, 12, 7, 1102), (12, 30, 12, 8, 1103), (12, 33, 12, 9, 1104), (12, 37, 12, 10, 1105), (12, 173, 12, 11, 1106), (12, 197, 12, 12, 1107), (12, 41, 12, 13, 1108), (12, 44, 12, 14, 1109), (12, 203, 12, 15, 1110), (12, 47, 12, 16, 1111), (12, 50, 12, 17, 1112), (12, 53, 12, 18, 1113), (12, 56, 12, 19, 1114), (12, 59, 12, 20, 1115), (12, 62, 12, 21, 1116), (12, 65, 12, 22, 1117), (12, 68, 12, 23, 1118), (12, 184, 12, 24, 1119), (12, 71, 12, 25, 1120), (12, 74, 12, 26, 1121), (12, 187, 12, 27, 1122), (12, 77, 12, 28, 1123), (12, 80, 12, 29, 1124), (12, 132, 12, 30, 1125), (12, 248, 12, 31, 1126), (12, 137, 12, 32, 1127), (12, 83, 12, 33, 1128), (12, 120, 12, 34, 1129), (12, 86, 12, 35, 1130), (12, 253, 12, 36, 1131), (12, 89, 12, 37, 1132), (12, 92, 12, 38, 1133), (12, 95, 12, 39, 1134), (12, 98, 12, 40, 1135), (12, 234, 12, 41, 1136), (12, 101, 12, 42, 1137), (12, 104, 12, 43, 1138), (12, 107, 12, 44, 1139), (12, 110, 12, 45, 1140), (12, 259, 12, 46, 1141), (12, 262, 12, 47, 1142), (12, 256, 12, 48, 1143)]
def mi_tW : List (Nat × Nat × Nat × Nat × Nat × Nat) := [(13, 7, 11, 85, 86, 69), (11, 7, 1, 93, 94, 70), (1, 9, 0, 99, 100, 71), (0, 9, 3, 105, 106, 72), (0, 35, 6, 119, 120, 73), (1, 18, 7, 178, 179, 74), (7, 9, 3, 184, 106, 72), (1, 25, 2, 203, 204, 75), (2, 9, 3, 209, 106, 72), (2, 41, 6, 211, 120, 73), (1, 36, 6, 253, 120, 73), (11, 16, 4, 277, 278, 76), (4, 9, 3, 283, 106, 72), (11, 23, 8, 312, 313, 77), (8, 9, 5, 318, 319, 78), (5, 7, 3, 324, 106, 72), (5, 18, 6, 326, 120, 73), (11, 32, 5, 366, 319, 78), (11, 44, 9, 368, 369, 79), (9, 9, 6, 374, 120, 73), (9, 20, 3, 376, 106, 72), (11, 51, 10, 392, 393, 80), (10, 9, 3, 398, 106, 72), (13, 10, 12, 1089, 1090, 81)]
def mi_tKL : List (Nat × Nat × Int64 × Nat) := [(4, 30, 127, 472), (11, 242, 1000000000000000, 602), (1, 125, 10000000000000000, 657), (11, 304, 1000, 786), (9, 58, -1, 815), (11, 197, -9223372036854775808, 961), (2, 97, -9223372036854775808, 1006), (10, 110, 10, 1052), (12, 152, 9999, 1255), (12, 154, 4, 1256), (12, 123, -2, 1269), (12, 125, 2, 1270), (12, 127, 127, 1271), (12, 180, -1000000000000000, 1309), (12, 182, 1000000000000000, 1310), (12, 190, -10000000000000000, 1343), (12, 192, 10000000000000000, 1344), (12, 239, 1000, 1377), (12, 237, -1, 1382), (12, 244, 3, 1387), (12, 246, -9223372036854775808, 1388), (12, 251, 255, 1397), (12, 269, -2147483648, 1418), (12, 271, 2147483647, 1419), (12, 308, 8, 1436), (12, 327, 10, 1496), (12, 344, 5, 1517), (12, 346, 7, 1518), (12, 348, 9, 1519), (13, 32, 4294967295, 1520)]
def mi_tKI : List (Nat × Nat × Int32 × Nat) := [(4, 52, 65535, 510), (4, 53, 32768, 511), (12, 136, 65535, 1280), (12, 135, 32768, 1284)]
def mi_C (o i : Nat) : Option (Nat × Nat × Nat) := (mi_tC.find? (fun e => e.1 == o && e.2.1 == i)).map (fun e => (e.2.2.1, e.2.2.2.1, e.2.2.2.2.1))
def mi_Q (o i : Nat) : Option Nat := (mi_tQ.find? (fun e => e.1 == o && e.2.1 == i)).map (fun e => e.2.2.1)
def mi_F (o i : Nat) : Option (Nat × Nat) := (mi_tF.find? (fun e => e.1 == o && e.2.1 == i)).map (fun e => (e.2.2.1, e.2.2.2.1))
def mi_W (o i : Nat) : Option Nat := (mi_tW.find? (fun e => e.1 == o && e.2.1 == i)).map (fun e => e.2.2.1)
def mi_KL (o i : Nat) : Option Int64 := (mi_tKL.find? (fun e => e.1 == o && e.2.1 == i)).map (fun e => e.2.2.1)
def mi_KI (o i : Nat) : Option Int32 := (mi_tKI.find? (fun e => e.1 == o && e.2.1 == i)).map (fun e => e.2.2.1)
def mi_let : Nat × Nat := (10, 79)
def mi_law : Nat := 210
def mi_ws : List Cond := lw_tbl.filter goodWord
theorem mi_ws_tbl {w : Cond} (h : w ∈ mi_ws) : w ∈ lw_tbl := (List.mem_filter.mp h).1
theorem mi_ws_good {w : Cond} (h : w ∈ mi_ws) : (w.onTables && w.keeps) = true ∨ ∃ ty, w = .arrayClass ty := good_of_word (List.mem_filter.mp h).2
theorem mi_ws_of {w : Cond} (p : Nat) (h : lw_tbl[p]? = some w) (g : goodWord w = true) : w ∈ mi_ws := List.mem_filter.mpr ⟨List.mem_of_getElem? h, g⟩
def mi_PC : Nat × Nat × Nat × Nat × Nat × Nat × Nat × Nat × Nat × Nat → Prop := fun e => match e with
  | (o, i, z, n, kd, p1, p2, p3, p4, p5) =>
    (kd < 3 → lw_tbl[p1]? = some (Cond.methodLink (mi_RX o) i (mi_N z))) ∧ (¬ kd < 3 → lw_tbl[p1]? = some (Cond.methodLinkNest (mi_RX o) i (mi_N z) "LedgerTwice"))
    ∧ (kd = 1 ∨ kd = 4 → lw_tbl[p2]? = some (Cond.static (mi_N z))) ∧ (¬ (kd = 1 ∨ kd = 4) → lw_tbl[p2]? = some (Cond.instanceMethod (mi_N z)))
    ∧ (kd = 0 → lw_tbl[p3]? = some (Cond.selects (mi_RX (mi_O z)) (mi_N z) (mi_N z)))
    ∧ lw_tbl[p4]? = some (Cond.initialized (mi_RX (mi_O z)))
    ∧ lw_tbl[p5]? = some (Cond.code (mi_N z) (mi_B z) (mi_L z) (mi_R z))
    ∧ (mi_N z).cls = mi_RX (mi_O z)
    ∧ (parseMethodDescriptor (mi_N z).desc).map (fun d => d.parameters.length) = some (if kd = 1 ∨ kd = 4 then n else n - 1)
    ∧ (mi_L z).ble 40 = true ∧ (1 ≤ n ∨ kd = 1 ∨ kd = 4) ∧ kd < 5
    ∧ (kd = 2 ∨ kd = 3 → (mi_N z).name = "<init>" ∧ mi_R z = none)
set_option maxRecDepth 100000 in
theorem mi_pc0 : mi_PC (13, 9, 112, 1, 2, 87, 88, 0, 69, 89) := ⟨(fun _ => rfl), (fun h => absurd h (by decide)), (fun h => absurd h (by decide)), (fun _ => rfl), (fun h => absurd h (by decide)), rfl, rfl, rfl, (by decide +kernel), rfl, (by decide), (by decide), (fun _ => ⟨rfl, rfl⟩)⟩
set_option maxRecDepth 100000 in
theorem mi_pc1 : mi_PC (11, 25, 81, 3, 2, 314, 315, 0, 77, 316) := ⟨(fun _ => rfl), (fun h => absurd h (by decide)), (fun h => absurd h (by decide)), (fun _ => rfl), (fun h => absurd h (by decide)), rfl, rfl, rfl, (by decide +kernel), rfl, (by decide), (by decide), (fun _ => ⟨rfl, rfl⟩)⟩
set_option maxRecDepth 100000 in
theorem mi_pc2 : mi_PC (8, 11, 61, 2, 2, 320, 321, 0, 78, 322) := ⟨(fun _ => rfl), (fun h => absurd h (by decide)), (fun h => absurd h (by decide)), (fun _ => rfl), (fun h => absurd h (by decide)), rfl, rfl, rfl, (by decide +kernel), rfl, (by decide), (by decide), (fun _ => ⟨rfl, rfl⟩)⟩
set_option maxRecDepth 100000 in
theorem mi_pc3 : mi_PC (11, 34, 61, 2, 2, 367, 321, 0, 78, 322) := ⟨(fun _ => rfl), (fun h => absurd h (by decide)), (fun h => absurd h (by decide)), (fun _ => rfl), (fun h => absurd h (by decide)), rfl, rfl, rfl, (by decide +kernel), rfl, (by decide), (by decide), (fun _ => ⟨rfl, rfl⟩)⟩
set_option maxRecDepth 100000 in
theorem mi_pc4 : mi_PC (11, 57, 102, 2, 2, 394, 395, 0, 80, 396) := ⟨(fun _ => rfl), (fun h => absurd h (by decide)), (fun h => absurd h (by decide)), (fun _ => rfl), (fun h => absurd h (by decide)), rfl, rfl, rfl, (by decide +kernel), rfl, (by decide), (by decide), (fun _ => ⟨rfl, rfl⟩)⟩
set_option maxRecDepth 100000 in
theorem mi_pc5 : mi_PC (13, 13, 113, 5, 0, 440, 441, 442, 69, 443) := ⟨(fun _ => rfl), (fun h => absurd h (by decide)), (fun h => absurd h (by decide)), (fun _ => rfl), (fun _ => rfl), rfl, rfl, rfl, (by decide +kernel), rfl, (by decide), (by decide), (fun h => absurd h (by decide))⟩
set_option maxRecDepth 100000 in
theorem mi_pc6 : mi_PC (11, 68, 17, 4, 0, 444, 445, 446, 70, 447) := ⟨(fun _ => rfl), (fun h => absurd h (by decide)), (fun h => absurd h (by decide)), (fun _ => rfl), (fun _ => rfl), rfl, rfl, rfl, (by decide +kernel), rfl, (by decide), (by decide), (fun h => absurd h (by decide))⟩
set_option maxRecDepth 100000 in
theorem mi_pc7 : mi_PC (1, 50, 2, 2, 0, 448, 449, 450, 71, 451) := ⟨(fun _ => rfl), (fun h => absurd h (by decide)), (fun h => absurd h (by decide)), (fun _ => rfl), (fun _ => rfl), rfl, rfl, rfl, (by decide +kernel), rfl, (by decide), (by decide), (fun h => absurd h (by decide))⟩
set_option maxRecDepth 100000 in
theorem mi_pc8 : mi_PC (1, 54, 6, 3, 0, 452, 453, 454, 71, 455) := ⟨(fun _ => rfl), (fun h => absurd h (by decide)), (fun h => absurd h (by decide)), (fun _ => rfl), (fun _ => rfl), rfl, rfl, rfl, (by decide +kernel), rfl, (by decide), (by decide), (fun h => absurd h (by decide))⟩
set_option maxRecDepth 100000 in
theorem mi_pc9 : mi_PC (1, 58, 7, 2, 0, 460, 461, 462, 71, 463) := ⟨(fun _ => rfl), (fun h => absurd h (by decide)), (fun h => absurd h (by decide)), (fun _ => rfl), (fun _ => rfl), rfl, rfl, rfl, (by decide +kernel), rfl, (by decide), (by decide), (fun h => absurd h (by decide))⟩
set_option maxRecDepth 100000 in
theorem mi_pc10 : mi_PC (11, 72, 52, 2, 0, 464, 465, 466, 76, 467) := ⟨(fun _ => rfl), (fun h => absurd h (by decide)), (fun h => absurd h (by decide)), (fun _ => rfl), (fun _ => rfl), rfl, rfl, rfl, (by decide +kernel), rfl, (by decide), (by decide), (fun h => absurd h (by decide))⟩
set_option maxRecDepth 100000 in
theorem mi_pc11 : mi_PC (11, 75, 53, 2, 0, 468, 469, 470, 76, 471) := ⟨(fun _ => rfl), (fun h => absurd h (by decide)), (fun h => absurd h (by decide)), (fun _ => rfl), (fun _ => rfl), rfl, rfl, rfl, (by decide +kernel), rfl, (by decide), (by decide), (fun h => absurd h (by decide))⟩
set_option maxRecDepth 100000 in
theorem mi_pc12 : mi_PC (11, 79, 54, 1, 0, 497, 498, 499, 76, 500) := ⟨(fun _ => rfl), (fun h => absurd h (by decide)), (fun h => absurd h (by decide)), (fun _ => rfl), (fun _ => rfl), rfl, rfl, rfl, (by decide +kernel), rfl, (by decide), (by decide), (fun h => absurd h (by decide))⟩
set_option maxRecDepth 100000 in
theorem mi_pc13 : mi_PC (4, 39, 55, 2, 0, 501, 503, 0, 76, 504) := ⟨(fun _ => rfl), (fun h => absurd h (by decide)), (fun h => absurd h (by decide)), (fun _ => rfl), (fun _ => rfl), rfl, rfl, rfl, (by decide +kernel), rfl, (by decide), (by decide), (fun h => absurd h (by decide))⟩
set_option maxRecDepth 100000 in
theorem mi_pc14 : mi_PC (4, 45, 56, 3, 0, 506, 508, 1, 76, 509) := ⟨(fun _ => rfl), (fun h => absurd h (by decide)), (fun h => absurd h (by decide)), (fun _ => rfl), (fun _ => rfl), rfl, rfl, rfl, (by decide +kernel), rfl, (by decide), (by decide), (fun h => absurd h (by decide))⟩
set_option maxRecDepth 100000 in
theorem mi_pc15 : mi_PC (11, 83, 8, 5, 0, 512, 513, 514, 71, 515) := ⟨(fun _ => rfl), (fun h => absurd h (by decide)), (fun h => absurd h (by decide)), (fun _ => rfl), (fun _ => rfl), rfl, rfl, rfl, (by decide +kernel), rfl, (by decide), (by decide), (fun h => absurd h (by decide))⟩
set_option maxRecDepth 100000 in
theorem mi_pc16 : mi_PC (0, 67, 9, 2, 0, 531, 533, 2, 71, 534) := ⟨(fun _ => rfl), (fun h => absurd h (by decide)), (fun h => absurd h (by decide)), (fun _ => rfl), (fun _ => rfl), rfl, rfl, rfl, (by decide +kernel), rfl, (by decide), (by decide), (fun h => absurd h (by decide))⟩
set_option maxRecDepth 100000 in
theorem mi_pc17 : mi_PC (13, 18, 114, 3, 0, 535, 536, 537, 69, 538) := ⟨(fun _ => rfl), (fun h => absurd h (by decide)), (fun h => absurd h (by decide)), (fun _ => rfl), (fun _ => rfl), rfl, rfl, rfl, (by decide +kernel), rfl, (by decide), (by decide), (fun h => absurd h (by decide))⟩
set_option maxRecDepth 100000 in
theorem mi_pc18 : mi_PC (11, 89, 18, 3, 0, 539, 540, 541, 70, 542) := ⟨(fun _ => rfl), (fun h => absurd h (by decide)), (fun h => absurd h (by decide)), (fun _ => rfl), (fun _ => rfl), rfl, rfl, rfl, (by decide +kernel), rfl, (by decide), (by decide), (fun h => absurd h (by decide))⟩
set_option maxRecDepth 100000 in
theorem mi_pc19 : mi_PC (1, 64, 3, 2, 0, 543, 544, 545, 71, 546) := ⟨(fun _ => rfl), (fun h => absurd h (by decide)), (fun h => absurd h (by decide)), (fun _ => rfl), (fun _ => rfl), rfl, rfl, rfl, (by decide +kernel), rfl, (by decide), (by decide), (fun h => absurd h (by decide))⟩
set_option maxRecDepth 100000 in
theorem mi_pc20 : mi_PC (0, 52, 2, 2, 0, 547, 449, 450, 71, 451) := ⟨(fun _ => rfl), (fun h => absurd h (by decide)), (fun h => absurd h (by decide)), (fun _ => rfl), (fun _ => rfl), rfl, rfl, rfl, (by decide +kernel), rfl, (by decide), (by decide), (fun h => absurd h (by decide))⟩
set_option maxRecDepth 100000 in
theorem mi_pc21 : mi_PC (1, 67, 4, 2, 0, 548, 549, 550, 71, 551) := ⟨(fun _ => rfl), (fun h => absurd h (by decide)), (fun h => absurd h (by decide)), (fun _ => rfl), (fun _ => rfl), rfl, rfl, rfl, (by decide +kernel), rfl, (by decide), (by decide), (fun h => absurd h (by decide))⟩
set_option maxRecDepth 100000 in
theorem mi_pc22 : mi_PC (11, 93, 5, 3, 0, 552, 553, 554, 71, 555) := ⟨(fun _ => rfl), (fun h => absurd h (by decide)), (fun h => absurd h (by decide)), (fun _ => rfl), (fun _ => rfl), rfl, rfl, rfl, (by decide +kernel), rfl, (by decide), (by decide), (fun h => absurd h (by decide))⟩
set_option maxRecDepth 100000 in
theorem mi_pc23 : mi_PC (13, 23, 115, 2, 0, 556, 557, 558, 69, 559) := ⟨(fun _ => rfl), (fun h => absurd h (by decide)), (fun h => absurd h (by decide)), (fun _ => rfl), (fun _ => rfl), rfl, rfl, rfl, (by decide +kernel), rfl, (by decide), (by decide), (fun h => absurd h (by decide))⟩
set_option maxRecDepth 100000 in
theorem mi_pc24 : mi_PC (11, 97, 19, 2, 0, 560, 561, 562, 70, 563) := ⟨(fun _ => rfl), (fun h => absurd h (by decide)), (fun h => absurd h (by decide)), (fun _ => rfl), (fun _ => rfl), rfl, rfl, rfl, (by decide +kernel), rfl, (by decide), (by decide), (fun h => absurd h (by decide))⟩
set_option maxRecDepth 100000 in
theorem mi_pc25 : mi_PC (1, 70, 75, 1, 0, 564, 565, 566, 74, 567) := ⟨(fun _ => rfl), (fun h => absurd h (by decide)), (fun h => absurd h (by decide)), (fun _ => rfl), (fun _ => rfl), rfl, rfl, rfl, (by decide +kernel), rfl, (by decide), (by decide), (fun h => absurd h (by decide))⟩
set_option maxRecDepth 100000 in
theorem mi_pc26 : mi_PC (7, 38, 73, 2, 0, 568, 569, 570, 74, 571) := ⟨(fun _ => rfl), (fun h => absurd h (by decide)), (fun h => absurd h (by decide)), (fun _ => rfl), (fun _ => rfl), rfl, rfl, rfl, (by decide +kernel), rfl, (by decide), (by decide), (fun h => absurd h (by decide))⟩
set_option maxRecDepth 100000 in
theorem mi_pc27 : mi_PC (11, 105, 72, 2, 0, 573, 574, 575, 74, 576) := ⟨(fun _ => rfl), (fun h => absurd h (by decide)), (fun h => absurd h (by decide)), (fun _ => rfl), (fun _ => rfl), rfl, rfl, rfl, (by decide +kernel), rfl, (by decide), (by decide), (fun h => absurd h (by decide))⟩
set_option maxRecDepth 100000 in
theorem mi_pc28 : mi_PC (13, 28, 116, 2, 0, 578, 579, 580, 69, 581) := ⟨(fun _ => rfl), (fun h => absurd h (by decide)), (fun h => absurd h (by decide)), (fun _ => rfl), (fun _ => rfl), rfl, rfl, rfl, (by decide +kernel), rfl, (by decide), (by decide), (fun h => absurd h (by decide))⟩
set_option maxRecDepth 100000 in
theorem mi_pc29 : mi_PC (11, 109, 20, 2, 0, 582, 583, 584, 70, 585) := ⟨(fun _ => rfl), (fun h => absurd h (by decide)), (fun h => absurd h (by decide)), (fun _ => rfl), (fun _ => rfl), rfl, rfl, rfl, (by decide +kernel), rfl, (by decide), (by decide), (fun h => absurd h (by decide))⟩
set_option maxRecDepth 100000 in
theorem mi_pc30 : mi_PC (11, 112, 21, 2, 0, 587, 588, 589, 70, 590) := ⟨(fun _ => rfl), (fun h => absurd h (by decide)), (fun h => absurd h (by decide)), (fun _ => rfl), (fun _ => rfl), rfl, rfl, rfl, (by decide +kernel), rfl, (by decide), (by decide), (fun h => absurd h (by decide))⟩
set_option maxRecDepth 100000 in
theorem mi_pc31 : mi_PC (13, 34, 117, 3, 0, 591, 592, 593, 69, 594) := ⟨(fun _ => rfl), (fun h => absurd h (by decide)), (fun h => absurd h (by decide)), (fun _ => rfl), (fun _ => rfl), rfl, rfl, rfl, (by decide +kernel), rfl, (by decide), (by decide), (fun h => absurd h (by decide))⟩
set_option maxRecDepth 100000 in
theorem mi_pc32 : mi_PC (11, 115, 22, 3, 0, 595, 596, 597, 70, 598) := ⟨(fun _ => rfl), (fun h => absurd h (by decide)), (fun h => absurd h (by decide)), (fun _ => rfl), (fun _ => rfl), rfl, rfl, rfl, (by decide +kernel), rfl, (by decide), (by decide), (fun h => absurd h (by decide))⟩
set_option maxRecDepth 100000 in
theorem mi_pc33 : mi_PC (11, 244, 146, 2, 1, 603, 604, 0, 69, 605) := ⟨(fun _ => rfl), (fun h => absurd h (by decide)), (fun _ => rfl), (fun h => absurd h (by decide)), (fun h => absurd h (by decide)), rfl, rfl, rfl, (by decide +kernel), rfl, (by decide), (by decide), (fun h => absurd h (by decide))⟩
set_option maxRecDepth 100000 in
theorem mi_pc34 : mi_PC (11, 123, 63, 3, 0, 606, 607, 608, 78, 609) := ⟨(fun _ => rfl), (fun h => absurd h (by decide)), (fun h => absurd h (by decide)), (fun _ => rfl), (fun _ => rfl), rfl, rfl, rfl, (by decide +kernel), rfl, (by decide), (by decide), (fun h => absurd h (by decide))⟩
set_option maxRecDepth 100000 in
theorem mi_pc35 : mi_PC (13, 39, 118, 1, 0, 612, 613, 614, 69, 615) := ⟨(fun _ => rfl), (fun h => absurd h (by decide)), (fun h => absurd h (by decide)), (fun _ => rfl), (fun _ => rfl), rfl, rfl, rfl, (by decide +kernel), rfl, (by decide), (by decide), (fun h => absurd h (by decide))⟩
set_option maxRecDepth 100000 in
theorem mi_pc36 : mi_PC (11, 126, 62, 1, 0, 616, 617, 618, 78, 619) := ⟨(fun _ => rfl), (fun h => absurd h (by decide)), (fun h => absurd h (by decide)), (fun _ => rfl), (fun _ => rfl), rfl, rfl, rfl, (by decide +kernel), rfl, (by decide), (by decide), (fun h => absurd h (by decide))⟩
set_option maxRecDepth 100000 in
theorem mi_pc37 : mi_PC (13, 44, 119, 3, 0, 620, 621, 622, 69, 623) := ⟨(fun _ => rfl), (fun h => absurd h (by decide)), (fun h => absurd h (by decide)), (fun _ => rfl), (fun _ => rfl), rfl, rfl, rfl, (by decide +kernel), rfl, (by decide), (by decide), (fun h => absurd h (by decide))⟩
set_option maxRecDepth 100000 in
theorem mi_pc38 : mi_PC (11, 129, 140, 4, 0, 624, 626, 3, 69, 627) := ⟨(fun _ => rfl), (fun h => absurd h (by decide)), (fun h => absurd h (by decide)), (fun _ => rfl), (fun _ => rfl), rfl, rfl, rfl, (by decide +kernel), rfl, (by decide), (by decide), (fun h => absurd h (by decide))⟩
set_option maxRecDepth 100000 in
theorem mi_pc39 : mi_PC (11, 284, 23, 3, 0, 628, 629, 630, 70, 631) := ⟨(fun _ => rfl), (fun h => absurd h (by decide)), (fun h => absurd h (by decide)), (fun _ => rfl), (fun _ => rfl), rfl, rfl, rfl, (by decide +kernel), rfl, (by decide), (by decide), (fun h => absurd h (by decide))⟩
set_option maxRecDepth 100000 in
theorem mi_pc40 : mi_PC (1, 92, 64, 1, 0, 632, 633, 634, 78, 635) := ⟨(fun _ => rfl), (fun h => absurd h (by decide)), (fun h => absurd h (by decide)), (fun _ => rfl), (fun _ => rfl), rfl, rfl, rfl, (by decide +kernel), rfl, (by decide), (by decide), (fun h => absurd h (by decide))⟩
set_option maxRecDepth 100000 in
theorem mi_pc41 : mi_PC (1, 96, 76, 2, 0, 640, 641, 642, 74, 643) := ⟨(fun _ => rfl), (fun h => absurd h (by decide)), (fun h => absurd h (by decide)), (fun _ => rfl), (fun _ => rfl), rfl, rfl, rfl, (by decide +kernel), rfl, (by decide), (by decide), (fun h => absurd h (by decide))⟩
set_option maxRecDepth 100000 in
theorem mi_pc42 : mi_PC (1, 102, 25, 2, 0, 644, 646, 4, 70, 647) := ⟨(fun _ => rfl), (fun h => absurd h (by decide)), (fun h => absurd h (by decide)), (fun _ => rfl), (fun _ => rfl), rfl, rfl, rfl, (by decide +kernel), rfl, (by decide), (by decide), (fun h => absurd h (by decide))⟩
set_option maxRecDepth 100000 in
theorem mi_pc43 : mi_PC (1, 106, 24, 2, 0, 648, 650, 5, 70, 651) := ⟨(fun _ => rfl), (fun h => absurd h (by decide)), (fun h => absurd h (by decide)), (fun _ => rfl), (fun _ => rfl), rfl, rfl, rfl, (by decide +kernel), rfl, (by decide), (by decide), (fun h => absurd h (by decide))⟩
set_option maxRecDepth 100000 in
theorem mi_pc44 : mi_PC (1, 110, 26, 2, 0, 652, 654, 6, 70, 655) := ⟨(fun _ => rfl), (fun h => absurd h (by decide)), (fun h => absurd h (by decide)), (fun _ => rfl), (fun _ => rfl), rfl, rfl, rfl, (by decide +kernel), rfl, (by decide), (by decide), (fun h => absurd h (by decide))⟩
set_option maxRecDepth 100000 in
theorem mi_pc45 : mi_PC (11, 293, 27, 6, 0, 661, 662, 663, 70, 664) := ⟨(fun _ => rfl), (fun h => absurd h (by decide)), (fun h => absurd h (by decide)), (fun _ => rfl), (fun _ => rfl), rfl, rfl, rfl, (by decide +kernel), rfl, (by decide), (by decide), (fun h => absurd h (by decide))⟩
set_option maxRecDepth 100000 in
theorem mi_pc46 : mi_PC (1, 131, 10, 3, 0, 665, 666, 667, 71, 668) := ⟨(fun _ => rfl), (fun h => absurd h (by decide)), (fun h => absurd h (by decide)), (fun _ => rfl), (fun _ => rfl), rfl, rfl, rfl, (by decide +kernel), rfl, (by decide), (by decide), (fun h => absurd h (by decide))⟩
set_option maxRecDepth 100000 in
theorem mi_pc47 : mi_PC (1, 135, 40, 6, 0, 670, 671, 672, 75, 673) := ⟨(fun _ => rfl), (fun h => absurd h (by decide)), (fun h => absurd h (by decide)), (fun _ => rfl), (fun _ => rfl), rfl, rfl, rfl, (by decide +kernel), rfl, (by decide), (by decide), (fun h => absurd h (by decide))⟩
set_option maxRecDepth 100000 in
theorem mi_pc48 : mi_PC (13, 49, 120, 3, 0, 678, 679, 680, 69, 681) := ⟨(fun _ => rfl), (fun h => absurd h (by decide)), (fun h => absurd h (by decide)), (fun _ => rfl), (fun _ => rfl), rfl, rfl, rfl, (by decide +kernel), rfl, (by decide), (by decide), (fun h => absurd h (by decide))⟩
set_option maxRecDepth 100000 in
theorem mi_pc49 : mi_PC (11, 133, 28, 4, 0, 682, 683, 684, 70, 685) := ⟨(fun _ => rfl), (fun h => absurd h (by decide)), (fun h => absurd h (by decide)), (fun _ => rfl), (fun _ => rfl), rfl, rfl, rfl, (by decide +kernel), rfl, (by decide), (by decide), (fun h => absurd h (by decide))⟩
set_option maxRecDepth 100000 in
theorem mi_pc50 : mi_PC (1, 139, 39, 2, 0, 686, 687, 688, 75, 689) := ⟨(fun _ => rfl), (fun h => absurd h (by decide)), (fun h => absurd h (by decide)), (fun _ => rfl), (fun _ => rfl), rfl, rfl, rfl, (by decide +kernel), rfl, (by decide), (by decide), (fun h => absurd h (by decide))⟩
set_option maxRecDepth 100000 in
theorem mi_pc51 : mi_PC (1, 146, 43, 3, 0, 690, 691, 692, 75, 693) := ⟨(fun _ => rfl), (fun h => absurd h (by decide)), (fun h => absurd h (by decide)), (fun _ => rfl), (fun _ => rfl), rfl, rfl, rfl, (by decide +kernel), rfl, (by decide), (by decide), (fun h => absurd h (by decide))⟩
set_option maxRecDepth 100000 in
theorem mi_pc52 : mi_PC (2, 78, 62, 1, 0, 694, 617, 618, 78, 619) := ⟨(fun _ => rfl), (fun h => absurd h (by decide)), (fun h => absurd h (by decide)), (fun _ => rfl), (fun _ => rfl), rfl, rfl, rfl, (by decide +kernel), rfl, (by decide), (by decide), (fun h => absurd h (by decide))⟩
set_option maxRecDepth 100000 in
theorem mi_pc53 : mi_PC (2, 81, 41, 3, 0, 695, 696, 697, 75, 698) := ⟨(fun _ => rfl), (fun h => absurd h (by decide)), (fun h => absurd h (by decide)), (fun _ => rfl), (fun _ => rfl), rfl, rfl, rfl, (by decide +kernel), rfl, (by decide), (by decide), (fun h => absurd h (by decide))⟩
set_option maxRecDepth 100000 in
theorem mi_pc54 : mi_PC (2, 85, 42, 3, 0, 699, 700, 701, 75, 702) := ⟨(fun _ => rfl), (fun h => absurd h (by decide)), (fun h => absurd h (by decide)), (fun _ => rfl), (fun _ => rfl), rfl, rfl, rfl, (by decide +kernel), rfl, (by decide), (by decide), (fun h => absurd h (by decide))⟩
set_option maxRecDepth 100000 in
theorem mi_pc55 : mi_PC (2, 89, 63, 3, 0, 703, 607, 608, 78, 609) := ⟨(fun _ => rfl), (fun h => absurd h (by decide)), (fun h => absurd h (by decide)), (fun _ => rfl), (fun _ => rfl), rfl, rfl, rfl, (by decide +kernel), rfl, (by decide), (by decide), (fun h => absurd h (by decide))⟩
set_option maxRecDepth 100000 in
theorem mi_pc56 : mi_PC (1, 150, 23, 3, 0, 704, 629, 630, 70, 631) := ⟨(fun _ => rfl), (fun h => absurd h (by decide)), (fun h => absurd h (by decide)), (fun _ => rfl), (fun _ => rfl), rfl, rfl, rfl, (by decide +kernel), rfl, (by decide), (by decide), (fun h => absurd h (by decide))⟩
set_option maxRecDepth 100000 in
theorem mi_pc57 : mi_PC (11, 137, 29, 4, 0, 705, 706, 707, 70, 708) := ⟨(fun _ => rfl), (fun h => absurd h (by decide)), (fun h => absurd h (by decide)), (fun _ => rfl), (fun _ => rfl), rfl, rfl, rfl, (by decide +kernel), rfl, (by decide), (by decide), (fun h => absurd h (by decide))⟩
set_option maxRecDepth 100000 in
theorem mi_pc58 : mi_PC (1, 157, 27, 6, 0, 709, 662, 663, 70, 664) := ⟨(fun _ => rfl), (fun h => absurd h (by decide)), (fun h => absurd h (by decide)), (fun _ => rfl), (fun _ => rfl), rfl, rfl, rfl, (by decide +kernel), rfl, (by decide), (by decide), (fun h => absurd h (by decide))⟩
set_option maxRecDepth 100000 in
theorem mi_pc59 : mi_PC (13, 53, 121, 1, 0, 711, 712, 713, 69, 714) := ⟨(fun _ => rfl), (fun h => absurd h (by decide)), (fun h => absurd h (by decide)), (fun _ => rfl), (fun _ => rfl), rfl, rfl, rfl, (by decide +kernel), rfl, (by decide), (by decide), (fun h => absurd h (by decide))⟩
set_option maxRecDepth 100000 in
theorem mi_pc60 : mi_PC (11, 140, 30, 2, 0, 715, 716, 717, 70, 718) := ⟨(fun _ => rfl), (fun h => absurd h (by decide)), (fun h => absurd h (by decide)), (fun _ => rfl), (fun _ => rfl), rfl, rfl, rfl, (by decide +kernel), rfl, (by decide), (by decide), (fun h => absurd h (by decide))⟩
set_option maxRecDepth 100000 in
theorem mi_pc61 : mi_PC (1, 164, 31, 3, 0, 719, 721, 7, 70, 722) := ⟨(fun _ => rfl), (fun h => absurd h (by decide)), (fun h => absurd h (by decide)), (fun _ => rfl), (fun _ => rfl), rfl, rfl, rfl, (by decide +kernel), rfl, (by decide), (by decide), (fun h => absurd h (by decide))⟩
set_option maxRecDepth 100000 in
theorem mi_pc62 : mi_PC (1, 167, 73, 2, 0, 723, 569, 570, 74, 571) := ⟨(fun _ => rfl), (fun h => absurd h (by decide)), (fun h => absurd h (by decide)), (fun _ => rfl), (fun _ => rfl), rfl, rfl, rfl, (by decide +kernel), rfl, (by decide), (by decide), (fun h => absurd h (by decide))⟩
set_option maxRecDepth 100000 in
theorem mi_pc63 : mi_PC (1, 170, 74, 2, 0, 724, 725, 726, 74, 727) := ⟨(fun _ => rfl), (fun h => absurd h (by decide)), (fun h => absurd h (by decide)), (fun _ => rfl), (fun _ => rfl), rfl, rfl, rfl, (by decide +kernel), rfl, (by decide), (by decide), (fun h => absurd h (by decide))⟩
set_option maxRecDepth 100000 in
theorem mi_pc64 : mi_PC (1, 173, 44, 4, 0, 728, 729, 730, 75, 731) := ⟨(fun _ => rfl), (fun h => absurd h (by decide)), (fun h => absurd h (by decide)), (fun _ => rfl), (fun _ => rfl), rfl, rfl, rfl, (by decide +kernel), rfl, (by decide), (by decide), (fun h => absurd h (by decide))⟩
set_option maxRecDepth 100000 in
theorem mi_pc65 : mi_PC (1, 177, 62, 1, 0, 739, 617, 618, 78, 619) := ⟨(fun _ => rfl), (fun h => absurd h (by decide)), (fun h => absurd h (by decide)), (fun _ => rfl), (fun _ => rfl), rfl, rfl, rfl, (by decide +kernel), rfl, (by decide), (by decide), (fun h => absurd h (by decide))⟩
set_option maxRecDepth 100000 in
theorem mi_pc66 : mi_PC (1, 181, 32, 2, 0, 740, 742, 8, 70, 743) := ⟨(fun _ => rfl), (fun h => absurd h (by decide)), (fun h => absurd h (by decide)), (fun _ => rfl), (fun _ => rfl), rfl, rfl, rfl, (by decide +kernel), rfl, (by decide), (by decide), (fun h => absurd h (by decide))⟩
set_option maxRecDepth 100000 in
theorem mi_pc67 : mi_PC (1, 184, 63, 3, 0, 744, 607, 608, 78, 609) := ⟨(fun _ => rfl), (fun h => absurd h (by decide)), (fun h => absurd h (by decide)), (fun _ => rfl), (fun _ => rfl), rfl, rfl, rfl, (by decide +kernel), rfl, (by decide), (by decide), (fun h => absurd h (by decide))⟩
set_option maxRecDepth 100000 in
theorem mi_pc68 : mi_PC (11, 144, 33, 2, 0, 745, 746, 747, 70, 748) := ⟨(fun _ => rfl), (fun h => absurd h (by decide)), (fun h => absurd h (by decide)), (fun _ => rfl), (fun _ => rfl), rfl, rfl, rfl, (by decide +kernel), rfl, (by decide), (by decide), (fun h => absurd h (by decide))⟩
set_option maxRecDepth 100000 in
theorem mi_pc69 : mi_PC (1, 186, 78, 2, 0, 749, 750, 751, 74, 752) := ⟨(fun _ => rfl), (fun h => absurd h (by decide)), (fun h => absurd h (by decide)), (fun _ => rfl), (fun _ => rfl), rfl, rfl, rfl, (by decide +kernel), rfl, (by decide), (by decide), (fun h => absurd h (by decide))⟩
set_option maxRecDepth 100000 in
theorem mi_pc70 : mi_PC (13, 57, 122, 1, 0, 753, 754, 755, 69, 756) := ⟨(fun _ => rfl), (fun h => absurd h (by decide)), (fun h => absurd h (by decide)), (fun _ => rfl), (fun _ => rfl), rfl, rfl, rfl, (by decide +kernel), rfl, (by decide), (by decide), (fun h => absurd h (by decide))⟩
set_option maxRecDepth 100000 in
theorem mi_pc71 : mi_PC (11, 147, 34, 2, 0, 757, 758, 759, 70, 760) := ⟨(fun _ => rfl), (fun h => absurd h (by decide)), (fun h => absurd h (by decide)), (fun _ => rfl), (fun _ => rfl), rfl, rfl, rfl, (by decide +kernel), rfl, (by decide), (by decide), (fun h => absurd h (by decide))⟩
set_option maxRecDepth 100000 in
theorem mi_pc72 : mi_PC (1, 189, 77, 2, 0, 761, 762, 763, 74, 764) := ⟨(fun _ => rfl), (fun h => absurd h (by decide)), (fun h => absurd h (by decide)), (fun _ => rfl), (fun _ => rfl), rfl, rfl, rfl, (by decide +kernel), rfl, (by decide), (by decide), (fun h => absurd h (by decide))⟩
set_option maxRecDepth 100000 in
theorem mi_pc73 : mi_PC (11, 150, 35, 2, 0, 765, 766, 767, 70, 768) := ⟨(fun _ => rfl), (fun h => absurd h (by decide)), (fun h => absurd h (by decide)), (fun _ => rfl), (fun _ => rfl), rfl, rfl, rfl, (by decide +kernel), rfl, (by decide), (by decide), (fun h => absurd h (by decide))⟩
set_option maxRecDepth 100000 in
theorem mi_pc74 : mi_PC (1, 192, 79, 1, 0, 769, 770, 771, 74, 772) := ⟨(fun _ => rfl), (fun h => absurd h (by decide)), (fun h => absurd h (by decide)), (fun _ => rfl), (fun _ => rfl), rfl, rfl, rfl, (by decide +kernel), rfl, (by decide), (by decide), (fun h => absurd h (by decide))⟩
set_option maxRecDepth 100000 in
theorem mi_pc75 : mi_PC (13, 61, 123, 5, 0, 773, 774, 775, 69, 776) := ⟨(fun _ => rfl), (fun h => absurd h (by decide)), (fun h => absurd h (by decide)), (fun _ => rfl), (fun _ => rfl), rfl, rfl, rfl, (by decide +kernel), rfl, (by decide), (by decide), (fun h => absurd h (by decide))⟩
set_option maxRecDepth 100000 in
theorem mi_pc76 : mi_PC (11, 153, 141, 3, 0, 777, 779, 9, 69, 780) := ⟨(fun _ => rfl), (fun h => absurd h (by decide)), (fun h => absurd h (by decide)), (fun _ => rfl), (fun _ => rfl), rfl, rfl, rfl, (by decide +kernel), rfl, (by decide), (by decide), (fun h => absurd h (by decide))⟩
set_option maxRecDepth 100000 in
theorem mi_pc77 : mi_PC (11, 189, 2, 2, 0, 781, 449, 450, 71, 451) := ⟨(fun _ => rfl), (fun h => absurd h (by decide)), (fun h => absurd h (by decide)), (fun _ => rfl), (fun _ => rfl), rfl, rfl, rfl, (by decide +kernel), rfl, (by decide), (by decide), (fun h => absurd h (by decide))⟩
set_option maxRecDepth 100000 in
theorem mi_pc78 : mi_PC (11, 297, 145, 1, 1, 782, 600, 0, 69, 601) := ⟨(fun _ => rfl), (fun h => absurd h (by decide)), (fun _ => rfl), (fun h => absurd h (by decide)), (fun h => absurd h (by decide)), rfl, rfl, rfl, (by decide +kernel), rfl, (by decide), (by decide), (fun h => absurd h (by decide))⟩
set_option maxRecDepth 100000 in
theorem mi_pc79 : mi_PC (11, 300, 143, 1, 1, 783, 784, 0, 69, 785) := ⟨(fun _ => rfl), (fun h => absurd h (by decide)), (fun _ => rfl), (fun h => absurd h (by decide)), (fun h => absurd h (by decide)), rfl, rfl, rfl, (by decide +kernel), rfl, (by decide), (by decide), (fun h => absurd h (by decide))⟩
set_option maxRecDepth 100000 in
theorem mi_pc80 : mi_PC (11, 229, 3, 2, 0, 787, 544, 545, 71, 546) := ⟨(fun _ => rfl), (fun h => absurd h (by decide)), (fun h => absurd h (by decide)), (fun _ => rfl), (fun _ => rfl), rfl, rfl, rfl, (by decide +kernel), rfl, (by decide), (by decide), (fun h => absurd h (by decide))⟩
set_option maxRecDepth 100000 in
theorem mi_pc81 : mi_PC (11, 156, 142, 3, 0, 788, 790, 10, 69, 791) := ⟨(fun _ => rfl), (fun h => absurd h (by decide)), (fun h => absurd h (by decide)), (fun _ => rfl), (fun _ => rfl), rfl, rfl, rfl, (by decide +kernel), rfl, (by decide), (by decide), (fun h => absurd h (by decide))⟩
set_option maxRecDepth 100000 in
theorem mi_pc82 : mi_PC (11, 251, 97, 1, 0, 792, 793, 794, 79, 795) := ⟨(fun _ => rfl), (fun h => absurd h (by decide)), (fun h => absurd h (by decide)), (fun _ => rfl), (fun _ => rfl), rfl, rfl, rfl, (by decide +kernel), rfl, (by decide), (by decide), (fun h => absurd h (by decide))⟩
set_option maxRecDepth 100000 in
theorem mi_pc83 : mi_PC (11, 252, 98, 2, 0, 796, 797, 798, 79, 799) := ⟨(fun _ => rfl), (fun h => absurd h (by decide)), (fun h => absurd h (by decide)), (fun _ => rfl), (fun _ => rfl), rfl, rfl, rfl, (by decide +kernel), rfl, (by decide), (by decide), (fun h => absurd h (by decide))⟩
set_option maxRecDepth 100000 in
theorem mi_pc84 : mi_PC (11, 254, 99, 2, 0, 801, 802, 803, 79, 804) := ⟨(fun _ => rfl), (fun h => absurd h (by decide)), (fun h => absurd h (by decide)), (fun _ => rfl), (fun _ => rfl), rfl, rfl, rfl, (by decide +kernel), rfl, (by decide), (by decide), (fun h => absurd h (by decide))⟩
set_option maxRecDepth 100000 in
theorem mi_pc85 : mi_PC (9, 54, 100, 2, 0, 811, 813, 11, 79, 814) := ⟨(fun _ => rfl), (fun h => absurd h (by decide)), (fun h => absurd h (by decide)), (fun _ => rfl), (fun _ => rfl), rfl, rfl, rfl, (by decide +kernel), rfl, (by decide), (by decide), (fun h => absurd h (by decide))⟩
set_option maxRecDepth 100000 in
theorem mi_pc86 : mi_PC (9, 60, 101, 1, 0, 816, 818, 12, 79, 819) := ⟨(fun _ => rfl), (fun h => absurd h (by decide)), (fun h => absurd h (by decide)), (fun _ => rfl), (fun _ => rfl), rfl, rfl, rfl, (by decide +kernel), rfl, (by decide), (by decide), (fun h => absurd h (by decide))⟩
set_option maxRecDepth 100000 in
theorem mi_pc87 : mi_PC (13, 66, 124, 1, 0, 820, 821, 822, 69, 823) := ⟨(fun _ => rfl), (fun h => absurd h (by decide)), (fun h => absurd h (by decide)), (fun _ => rfl), (fun _ => rfl), rfl, rfl, rfl, (by decide +kernel), rfl, (by decide), (by decide), (fun h => absurd h (by decide))⟩
set_option maxRecDepth 100000 in
theorem mi_pc88 : mi_PC (11, 159, 58, 1, 0, 824, 825, 826, 76, 827) := ⟨(fun _ => rfl), (fun h => absurd h (by decide)), (fun h => absurd h (by decide)), (fun _ => rfl), (fun _ => rfl), rfl, rfl, rfl, (by decide +kernel), rfl, (by decide), (by decide), (fun h => absurd h (by decide))⟩
set_option maxRecDepth 100000 in
theorem mi_pc89 : mi_PC (13, 70, 125, 3, 0, 828, 829, 830, 69, 831) := ⟨(fun _ => rfl), (fun h => absurd h (by decide)), (fun h => absurd h (by decide)), (fun _ => rfl), (fun _ => rfl), rfl, rfl, rfl, (by decide +kernel), rfl, (by decide), (by decide), (fun h => absurd h (by decide))⟩
set_option maxRecDepth 100000 in
theorem mi_pc90 : mi_PC (11, 163, 59, 3, 0, 832, 833, 834, 76, 835) := ⟨(fun _ => rfl), (fun h => absurd h (by decide)), (fun h => absurd h (by decide)), (fun _ => rfl), (fun _ => rfl), rfl, rfl, rfl, (by decide +kernel), rfl, (by decide), (by decide), (fun h => absurd h (by decide))⟩
set_option maxRecDepth 100000 in
theorem mi_pc91 : mi_PC (11, 167, 103, 1, 0, 837, 838, 839, 80, 840) := ⟨(fun _ => rfl), (fun h => absurd h (by decide)), (fun h => absurd h (by decide)), (fun _ => rfl), (fun _ => rfl), rfl, rfl, rfl, (by decide +kernel), rfl, (by decide), (by decide), (fun h => absurd h (by decide))⟩
set_option maxRecDepth 100000 in
theorem mi_pc92 : mi_PC (13, 74, 126, 1, 0, 841, 842, 843, 69, 844) := ⟨(fun _ => rfl), (fun h => absurd h (by decide)), (fun h => absurd h (by decide)), (fun _ => rfl), (fun _ => rfl), rfl, rfl, rfl, (by decide +kernel), rfl, (by decide), (by decide), (fun h => absurd h (by decide))⟩
set_option maxRecDepth 100000 in
theorem mi_pc93 : mi_PC (11, 169, 16, 1, 0, 845, 846, 847, 70, 848) := ⟨(fun _ => rfl), (fun h => absurd h (by decide)), (fun h => absurd h (by decide)), (fun _ => rfl), (fun _ => rfl), rfl, rfl, rfl, (by decide +kernel), rfl, (by decide), (by decide), (fun h => absurd h (by decide))⟩
set_option maxRecDepth 100000 in
theorem mi_pc94 : mi_PC (1, 45, 1, 1, 0, 849, 850, 851, 71, 852) := ⟨(fun _ => rfl), (fun h => absurd h (by decide)), (fun h => absurd h (by decide)), (fun _ => rfl), (fun _ => rfl), rfl, rfl, rfl, (by decide +kernel), rfl, (by decide), (by decide), (fun h => absurd h (by decide))⟩
set_option maxRecDepth 100000 in
theorem mi_pc95 : mi_PC (1, 48, 70, 1, 0, 853, 854, 855, 74, 856) := ⟨(fun _ => rfl), (fun h => absurd h (by decide)), (fun h => absurd h (by decide)), (fun _ => rfl), (fun _ => rfl), rfl, rfl, rfl, (by decide +kernel), rfl, (by decide), (by decide), (fun h => absurd h (by decide))⟩
set_option maxRecDepth 100000 in
theorem mi_pc96 : mi_PC (1, 49, 38, 1, 0, 857, 858, 859, 75, 860) := ⟨(fun _ => rfl), (fun h => absurd h (by decide)), (fun h => absurd h (by decide)), (fun _ => rfl), (fun _ => rfl), rfl, rfl, rfl, (by decide +kernel), rfl, (by decide), (by decide), (fun h => absurd h (by decide))⟩
set_option maxRecDepth 100000 in
theorem mi_pc97 : mi_PC (11, 170, 57, 2, 0, 861, 862, 863, 76, 864) := ⟨(fun _ => rfl), (fun h => absurd h (by decide)), (fun h => absurd h (by decide)), (fun _ => rfl), (fun _ => rfl), rfl, rfl, rfl, (by decide +kernel), rfl, (by decide), (by decide), (fun h => absurd h (by decide))⟩
set_option maxRecDepth 100000 in
theorem mi_pc98 : mi_PC (11, 173, 82, 3, 0, 865, 866, 867, 77, 868) := ⟨(fun _ => rfl), (fun h => absurd h (by decide)), (fun h => absurd h (by decide)), (fun _ => rfl), (fun _ => rfl), rfl, rfl, rfl, (by decide +kernel), rfl, (by decide), (by decide), (fun h => absurd h (by decide))⟩
set_option maxRecDepth 100000 in
theorem mi_pc99 : mi_PC (8, 50, 83, 1, 0, 870, 872, 13, 77, 873) := ⟨(fun _ => rfl), (fun h => absurd h (by decide)), (fun h => absurd h (by decide)), (fun _ => rfl), (fun _ => rfl), rfl, rfl, rfl, (by decide +kernel), rfl, (by decide), (by decide), (fun h => absurd h (by decide))⟩
set_option maxRecDepth 100000 in
theorem mi_pc100 : mi_PC (8, 75, 94, 1, 0, 874, 876, 14, 77, 877) := ⟨(fun _ => rfl), (fun h => absurd h (by decide)), (fun h => absurd h (by decide)), (fun _ => rfl), (fun _ => rfl), rfl, rfl, rfl, (by decide +kernel), rfl, (by decide), (by decide), (fun h => absurd h (by decide))⟩
set_option maxRecDepth 100000 in
theorem mi_pc101 : mi_PC (8, 140, 95, 1, 0, 878, 880, 15, 77, 881) := ⟨(fun _ => rfl), (fun h => absurd h (by decide)), (fun h => absurd h (by decide)), (fun _ => rfl), (fun _ => rfl), rfl, rfl, rfl, (by decide +kernel), rfl, (by decide), (by decide), (fun h => absurd h (by decide))⟩
set_option maxRecDepth 100000 in
theorem mi_pc102 : mi_PC (8, 79, 93, 1, 0, 882, 884, 16, 77, 885) := ⟨(fun _ => rfl), (fun h => absurd h (by decide)), (fun h => absurd h (by decide)), (fun _ => rfl), (fun _ => rfl), rfl, rfl, rfl, (by decide +kernel), rfl, (by decide), (by decide), (fun h => absurd h (by decide))⟩
set_option maxRecDepth 100000 in
theorem mi_pc103 : mi_PC (8, 82, 92, 1, 0, 886, 888, 17, 77, 889) := ⟨(fun _ => rfl), (fun h => absurd h (by decide)), (fun h => absurd h (by decide)), (fun _ => rfl), (fun _ => rfl), rfl, rfl, rfl, (by decide +kernel), rfl, (by decide), (by decide), (fun h => absurd h (by decide))⟩
set_option maxRecDepth 100000 in
theorem mi_pc104 : mi_PC (8, 85, 17, 4, 0, 890, 445, 446, 70, 447) := ⟨(fun _ => rfl), (fun h => absurd h (by decide)), (fun h => absurd h (by decide)), (fun _ => rfl), (fun _ => rfl), rfl, rfl, rfl, (by decide +kernel), rfl, (by decide), (by decide), (fun h => absurd h (by decide))⟩
set_option maxRecDepth 100000 in
theorem mi_pc105 : mi_PC (8, 95, 8, 5, 0, 891, 513, 514, 71, 515) := ⟨(fun _ => rfl), (fun h => absurd h (by decide)), (fun h => absurd h (by decide)), (fun _ => rfl), (fun _ => rfl), rfl, rfl, rfl, (by decide +kernel), rfl, (by decide), (by decide), (fun h => absurd h (by decide))⟩
set_option maxRecDepth 100000 in
theorem mi_pc106 : mi_PC (8, 54, 84, 1, 0, 892, 894, 18, 77, 895) := ⟨(fun _ => rfl), (fun h => absurd h (by decide)), (fun h => absurd h (by decide)), (fun _ => rfl), (fun _ => rfl), rfl, rfl, rfl, (by decide +kernel), rfl, (by decide), (by decide), (fun h => absurd h (by decide))⟩
set_option maxRecDepth 100000 in
theorem mi_pc107 : mi_PC (8, 101, 18, 3, 0, 896, 540, 541, 70, 542) := ⟨(fun _ => rfl), (fun h => absurd h (by decide)), (fun h => absurd h (by decide)), (fun _ => rfl), (fun _ => rfl), rfl, rfl, rfl, (by decide +kernel), rfl, (by decide), (by decide), (fun h => absurd h (by decide))⟩
set_option maxRecDepth 100000 in
theorem mi_pc108 : mi_PC (8, 105, 5, 3, 0, 897, 553, 554, 71, 555) := ⟨(fun _ => rfl), (fun h => absurd h (by decide)), (fun h => absurd h (by decide)), (fun _ => rfl), (fun _ => rfl), rfl, rfl, rfl, (by decide +kernel), rfl, (by decide), (by decide), (fun h => absurd h (by decide))⟩
set_option maxRecDepth 100000 in
theorem mi_pc109 : mi_PC (8, 57, 85, 1, 0, 898, 900, 19, 77, 901) := ⟨(fun _ => rfl), (fun h => absurd h (by decide)), (fun h => absurd h (by decide)), (fun _ => rfl), (fun _ => rfl), rfl, rfl, rfl, (by decide +kernel), rfl, (by decide), (by decide), (fun h => absurd h (by decide))⟩
set_option maxRecDepth 100000 in
theorem mi_pc110 : mi_PC (8, 109, 19, 2, 0, 902, 561, 562, 70, 563) := ⟨(fun _ => rfl), (fun h => absurd h (by decide)), (fun h => absurd h (by decide)), (fun _ => rfl), (fun _ => rfl), rfl, rfl, rfl, (by decide +kernel), rfl, (by decide), (by decide), (fun h => absurd h (by decide))⟩
set_option maxRecDepth 100000 in
theorem mi_pc111 : mi_PC (8, 116, 72, 2, 0, 903, 574, 575, 74, 576) := ⟨(fun _ => rfl), (fun h => absurd h (by decide)), (fun h => absurd h (by decide)), (fun _ => rfl), (fun _ => rfl), rfl, rfl, rfl, (by decide +kernel), rfl, (by decide), (by decide), (fun h => absurd h (by decide))⟩
set_option maxRecDepth 100000 in
theorem mi_pc112 : mi_PC (8, 60, 86, 1, 0, 904, 906, 20, 77, 907) := ⟨(fun _ => rfl), (fun h => absurd h (by decide)), (fun h => absurd h (by decide)), (fun _ => rfl), (fun _ => rfl), rfl, rfl, rfl, (by decide +kernel), rfl, (by decide), (by decide), (fun h => absurd h (by decide))⟩
set_option maxRecDepth 100000 in
theorem mi_pc113 : mi_PC (8, 120, 20, 2, 0, 908, 583, 584, 70, 585) := ⟨(fun _ => rfl), (fun h => absurd h (by decide)), (fun h => absurd h (by decide)), (fun _ => rfl), (fun _ => rfl), rfl, rfl, rfl, (by decide +kernel), rfl, (by decide), (by decide), (fun h => absurd h (by decide))⟩
set_option maxRecDepth 100000 in
theorem mi_pc114 : mi_PC (8, 123, 21, 2, 0, 909, 588, 589, 70, 590) := ⟨(fun _ => rfl), (fun h => absurd h (by decide)), (fun h => absurd h (by decide)), (fun _ => rfl), (fun _ => rfl), rfl, rfl, rfl, (by decide +kernel), rfl, (by decide), (by decide), (fun h => absurd h (by decide))⟩
set_option maxRecDepth 100000 in
theorem mi_pc115 : mi_PC (8, 63, 87, 1, 0, 910, 912, 21, 77, 913) := ⟨(fun _ => rfl), (fun h => absurd h (by decide)), (fun h => absurd h (by decide)), (fun _ => rfl), (fun _ => rfl), rfl, rfl, rfl, (by decide +kernel), rfl, (by decide), (by decide), (fun h => absurd h (by decide))⟩
set_option maxRecDepth 100000 in
theorem mi_pc116 : mi_PC (8, 126, 88, 1, 0, 914, 916, 22, 77, 917) := ⟨(fun _ => rfl), (fun h => absurd h (by decide)), (fun h => absurd h (by decide)), (fun _ => rfl), (fun _ => rfl), rfl, rfl, rfl, (by decide +kernel), rfl, (by decide), (by decide), (fun h => absurd h (by decide))⟩
set_option maxRecDepth 100000 in
theorem mi_pc117 : mi_PC (8, 137, 62, 1, 0, 918, 617, 618, 78, 619) := ⟨(fun _ => rfl), (fun h => absurd h (by decide)), (fun h => absurd h (by decide)), (fun _ => rfl), (fun _ => rfl), rfl, rfl, rfl, (by decide +kernel), rfl, (by decide), (by decide), (fun h => absurd h (by decide))⟩
set_option maxRecDepth 100000 in
theorem mi_pc118 : mi_PC (8, 144, 22, 3, 0, 919, 596, 597, 70, 598) := ⟨(fun _ => rfl), (fun h => absurd h (by decide)), (fun h => absurd h (by decide)), (fun _ => rfl), (fun _ => rfl), rfl, rfl, rfl, (by decide +kernel), rfl, (by decide), (by decide), (fun h => absurd h (by decide))⟩
set_option maxRecDepth 100000 in
theorem mi_pc119 : mi_PC (8, 148, 63, 3, 0, 920, 607, 608, 78, 609) := ⟨(fun _ => rfl), (fun h => absurd h (by decide)), (fun h => absurd h (by decide)), (fun _ => rfl), (fun _ => rfl), rfl, rfl, rfl, (by decide +kernel), rfl, (by decide), (by decide), (fun h => absurd h (by decide))⟩
set_option maxRecDepth 100000 in
theorem mi_pc120 : mi_PC (8, 129, 23, 3, 0, 921, 629, 630, 70, 631) := ⟨(fun _ => rfl), (fun h => absurd h (by decide)), (fun h => absurd h (by decide)), (fun _ => rfl), (fun _ => rfl), rfl, rfl, rfl, (by decide +kernel), rfl, (by decide), (by decide), (fun h => absurd h (by decide))⟩
set_option maxRecDepth 100000 in
theorem mi_pc121 : mi_PC (8, 133, 27, 6, 0, 922, 662, 663, 70, 664) := ⟨(fun _ => rfl), (fun h => absurd h (by decide)), (fun h => absurd h (by decide)), (fun _ => rfl), (fun _ => rfl), rfl, rfl, rfl, (by decide +kernel), rfl, (by decide), (by decide), (fun h => absurd h (by decide))⟩
set_option maxRecDepth 100000 in
theorem mi_pc122 : mi_PC (8, 66, 89, 1, 0, 923, 925, 23, 77, 926) := ⟨(fun _ => rfl), (fun h => absurd h (by decide)), (fun h => absurd h (by decide)), (fun _ => rfl), (fun _ => rfl), rfl, rfl, rfl, (by decide +kernel), rfl, (by decide), (by decide), (fun h => absurd h (by decide))⟩
set_option maxRecDepth 100000 in
theorem mi_pc123 : mi_PC (8, 151, 28, 4, 0, 927, 683, 684, 70, 685) := ⟨(fun _ => rfl), (fun h => absurd h (by decide)), (fun h => absurd h (by decide)), (fun _ => rfl), (fun _ => rfl), rfl, rfl, rfl, (by decide +kernel), rfl, (by decide), (by decide), (fun h => absurd h (by decide))⟩
set_option maxRecDepth 100000 in
theorem mi_pc124 : mi_PC (8, 155, 29, 4, 0, 928, 706, 707, 70, 708) := ⟨(fun _ => rfl), (fun h => absurd h (by decide)), (fun h => absurd h (by decide)), (fun _ => rfl), (fun _ => rfl), rfl, rfl, rfl, (by decide +kernel), rfl, (by decide), (by decide), (fun h => absurd h (by decide))⟩
set_option maxRecDepth 100000 in
theorem mi_pc125 : mi_PC (8, 69, 90, 1, 0, 929, 931, 24, 77, 932) := ⟨(fun _ => rfl), (fun h => absurd h (by decide)), (fun h => absurd h (by decide)), (fun _ => rfl), (fun _ => rfl), rfl, rfl, rfl, (by decide +kernel), rfl, (by decide), (by decide), (fun h => absurd h (by decide))⟩
set_option maxRecDepth 100000 in
theorem mi_pc126 : mi_PC (8, 158, 30, 2, 0, 933, 716, 717, 70, 718) := ⟨(fun _ => rfl), (fun h => absurd h (by decide)), (fun h => absurd h (by decide)), (fun _ => rfl), (fun _ => rfl), rfl, rfl, rfl, (by decide +kernel), rfl, (by decide), (by decide), (fun h => absurd h (by decide))⟩
set_option maxRecDepth 100000 in
theorem mi_pc127 : mi_PC (8, 162, 33, 2, 0, 934, 746, 747, 70, 748) := ⟨(fun _ => rfl), (fun h => absurd h (by decide)), (fun h => absurd h (by decide)), (fun _ => rfl), (fun _ => rfl), rfl, rfl, rfl, (by decide +kernel), rfl, (by decide), (by decide), (fun h => absurd h (by decide))⟩
set_option maxRecDepth 100000 in
theorem mi_pc128 : mi_PC (8, 72, 91, 1, 0, 935, 937, 25, 77, 938) := ⟨(fun _ => rfl), (fun h => absurd h (by decide)), (fun h => absurd h (by decide)), (fun _ => rfl), (fun _ => rfl), rfl, rfl, rfl, (by decide +kernel), rfl, (by decide), (by decide), (fun h => absurd h (by decide))⟩
set_option maxRecDepth 100000 in
theorem mi_pc129 : mi_PC (8, 165, 34, 2, 0, 939, 758, 759, 70, 760) := ⟨(fun _ => rfl), (fun h => absurd h (by decide)), (fun h => absurd h (by decide)), (fun _ => rfl), (fun _ => rfl), rfl, rfl, rfl, (by decide +kernel), rfl, (by decide), (by decide), (fun h => absurd h (by decide))⟩
set_option maxRecDepth 100000 in
theorem mi_pc130 : mi_PC (8, 168, 35, 2, 0, 940, 766, 767, 70, 768) := ⟨(fun _ => rfl), (fun h => absurd h (by decide)), (fun h => absurd h (by decide)), (fun _ => rfl), (fun _ => rfl), rfl, rfl, rfl, (by decide +kernel), rfl, (by decide), (by decide), (fun h => absurd h (by decide))⟩
set_option maxRecDepth 100000 in
theorem mi_pc131 : mi_PC (11, 177, 60, 3, 0, 941, 942, 943, 76, 944) := ⟨(fun _ => rfl), (fun h => absurd h (by decide)), (fun h => absurd h (by decide)), (fun _ => rfl), (fun _ => rfl), rfl, rfl, rfl, (by decide +kernel), rfl, (by decide), (by decide), (fun h => absurd h (by decide))⟩
set_option maxRecDepth 100000 in
theorem mi_pc132 : mi_PC (13, 78, 127, 2, 0, 945, 946, 947, 69, 948) := ⟨(fun _ => rfl), (fun h => absurd h (by decide)), (fun h => absurd h (by decide)), (fun _ => rfl), (fun _ => rfl), rfl, rfl, rfl, (by decide +kernel), rfl, (by decide), (by decide), (fun h => absurd h (by decide))⟩
set_option maxRecDepth 100000 in
theorem mi_pc133 : mi_PC (13, 82, 128, 3, 0, 949, 950, 951, 69, 952) := ⟨(fun _ => rfl), (fun h => absurd h (by decide)), (fun h => absurd h (by decide)), (fun _ => rfl), (fun _ => rfl), rfl, rfl, rfl, (by decide +kernel), rfl, (by decide), (by decide), (fun h => absurd h (by decide))⟩
set_option maxRecDepth 100000 in
theorem mi_pc134 : mi_PC (11, 193, 14, 3, 0, 953, 954, 955, 71, 956) := ⟨(fun _ => rfl), (fun h => absurd h (by decide)), (fun h => absurd h (by decide)), (fun _ => rfl), (fun _ => rfl), rfl, rfl, rfl, (by decide +kernel), rfl, (by decide), (by decide), (fun h => absurd h (by decide))⟩
set_option maxRecDepth 100000 in
theorem mi_pc135 : mi_PC (13, 86, 129, 2, 0, 957, 958, 959, 69, 960) := ⟨(fun _ => rfl), (fun h => absurd h (by decide)), (fun h => absurd h (by decide)), (fun _ => rfl), (fun _ => rfl), rfl, rfl, rfl, (by decide +kernel), rfl, (by decide), (by decide), (fun h => absurd h (by decide))⟩
set_option maxRecDepth 100000 in
theorem mi_pc136 : mi_PC (11, 203, 11, 3, 0, 962, 963, 964, 71, 965) := ⟨(fun _ => rfl), (fun h => absurd h (by decide)), (fun h => absurd h (by decide)), (fun _ => rfl), (fun _ => rfl), rfl, rfl, rfl, (by decide +kernel), rfl, (by decide), (by decide), (fun h => absurd h (by decide))⟩
set_option maxRecDepth 100000 in
theorem mi_pc137 : mi_PC (0, 73, 3, 2, 0, 966, 544, 545, 71, 546) := ⟨(fun _ => rfl), (fun h => absurd h (by decide)), (fun h => absurd h (by decide)), (fun _ => rfl), (fun _ => rfl), rfl, rfl, rfl, (by decide +kernel), rfl, (by decide), (by decide), (fun h => absurd h (by decide))⟩
set_option maxRecDepth 100000 in
theorem mi_pc138 : mi_PC (0, 76, 12, 3, 0, 967, 969, 26, 71, 970) := ⟨(fun _ => rfl), (fun h => absurd h (by decide)), (fun h => absurd h (by decide)), (fun _ => rfl), (fun _ => rfl), rfl, rfl, rfl, (by decide +kernel), rfl, (by decide), (by decide), (fun h => absurd h (by decide))⟩
set_option maxRecDepth 100000 in
theorem mi_pc139 : mi_PC (13, 91, 130, 4, 0, 971, 972, 973, 69, 974) := ⟨(fun _ => rfl), (fun h => absurd h (by decide)), (fun h => absurd h (by decide)), (fun _ => rfl), (fun _ => rfl), rfl, rfl, rfl, (by decide +kernel), rfl, (by decide), (by decide), (fun h => absurd h (by decide))⟩
set_option maxRecDepth 100000 in
theorem mi_pc140 : mi_PC (11, 207, 36, 4, 0, 975, 976, 977, 70, 978) := ⟨(fun _ => rfl), (fun h => absurd h (by decide)), (fun h => absurd h (by decide)), (fun _ => rfl), (fun _ => rfl), rfl, rfl, rfl, (by decide +kernel), rfl, (by decide), (by decide), (fun h => absurd h (by decide))⟩
set_option maxRecDepth 100000 in
theorem mi_pc141 : mi_PC (1, 195, 11, 3, 0, 979, 963, 964, 71, 965) := ⟨(fun _ => rfl), (fun h => absurd h (by decide)), (fun h => absurd h (by decide)), (fun _ => rfl), (fun _ => rfl), rfl, rfl, rfl, (by decide +kernel), rfl, (by decide), (by decide), (fun h => absurd h (by decide))⟩
set_option maxRecDepth 100000 in
theorem mi_pc142 : mi_PC (13, 96, 131, 3, 0, 980, 981, 982, 69, 983) := ⟨(fun _ => rfl), (fun h => absurd h (by decide)), (fun h => absurd h (by decide)), (fun _ => rfl), (fun _ => rfl), rfl, rfl, rfl, (by decide +kernel), rfl, (by decide), (by decide), (fun h => absurd h (by decide))⟩
set_option maxRecDepth 100000 in
theorem mi_pc143 : mi_PC (11, 215, 39, 2, 0, 984, 687, 688, 75, 689) := ⟨(fun _ => rfl), (fun h => absurd h (by decide)), (fun h => absurd h (by decide)), (fun _ => rfl), (fun _ => rfl), rfl, rfl, rfl, (by decide +kernel), rfl, (by decide), (by decide), (fun h => absurd h (by decide))⟩
set_option maxRecDepth 100000 in
theorem mi_pc144 : mi_PC (11, 218, 47, 3, 0, 985, 986, 987, 75, 988) := ⟨(fun _ => rfl), (fun h => absurd h (by decide)), (fun h => absurd h (by decide)), (fun _ => rfl), (fun _ => rfl), rfl, rfl, rfl, (by decide +kernel), rfl, (by decide), (by decide), (fun h => absurd h (by decide))⟩
set_option maxRecDepth 100000 in
theorem mi_pc145 : mi_PC (13, 100, 132, 4, 0, 989, 990, 991, 69, 992) := ⟨(fun _ => rfl), (fun h => absurd h (by decide)), (fun h => absurd h (by decide)), (fun _ => rfl), (fun _ => rfl), rfl, rfl, rfl, (by decide +kernel), rfl, (by decide), (by decide), (fun h => absurd h (by decide))⟩
set_option maxRecDepth 100000 in
theorem mi_pc146 : mi_PC (11, 222, 41, 3, 0, 993, 696, 697, 75, 698) := ⟨(fun _ => rfl), (fun h => absurd h (by decide)), (fun h => absurd h (by decide)), (fun _ => rfl), (fun _ => rfl), rfl, rfl, rfl, (by decide +kernel), rfl, (by decide), (by decide), (fun h => absurd h (by decide))⟩
set_option maxRecDepth 100000 in
theorem mi_pc147 : mi_PC (11, 225, 42, 3, 0, 994, 700, 701, 75, 702) := ⟨(fun _ => rfl), (fun h => absurd h (by decide)), (fun h => absurd h (by decide)), (fun _ => rfl), (fun _ => rfl), rfl, rfl, rfl, (by decide +kernel), rfl, (by decide), (by decide), (fun h => absurd h (by decide))⟩
set_option maxRecDepth 100000 in
theorem mi_pc148 : mi_PC (13, 104, 133, 4, 0, 995, 996, 997, 69, 998) := ⟨(fun _ => rfl), (fun h => absurd h (by decide)), (fun h => absurd h (by decide)), (fun _ => rfl), (fun _ => rfl), rfl, rfl, rfl, (by decide +kernel), rfl, (by decide), (by decide), (fun h => absurd h (by decide))⟩
set_option maxRecDepth 100000 in
theorem mi_pc149 : mi_PC (11, 233, 45, 4, 0, 999, 1000, 1001, 75, 1002) := ⟨(fun _ => rfl), (fun h => absurd h (by decide)), (fun h => absurd h (by decide)), (fun _ => rfl), (fun _ => rfl), rfl, rfl, rfl, (by decide +kernel), rfl, (by decide), (by decide), (fun h => absurd h (by decide))⟩
set_option maxRecDepth 100000 in
theorem mi_pc150 : mi_PC (2, 93, 46, 4, 1, 1003, 1004, 0, 75, 1005) := ⟨(fun _ => rfl), (fun h => absurd h (by decide)), (fun _ => rfl), (fun h => absurd h (by decide)), (fun h => absurd h (by decide)), rfl, rfl, rfl, (by decide +kernel), rfl, (by decide), (by decide), (fun h => absurd h (by decide))⟩
set_option maxRecDepth 100000 in
theorem mi_pc151 : mi_PC (13, 108, 134, 3, 0, 1007, 1008, 1009, 69, 1010) := ⟨(fun _ => rfl), (fun h => absurd h (by decide)), (fun h => absurd h (by decide)), (fun _ => rfl), (fun _ => rfl), rfl, rfl, rfl, (by decide +kernel), rfl, (by decide), (by decide), (fun h => absurd h (by decide))⟩
set_option maxRecDepth 100000 in
theorem mi_pc152 : mi_PC (11, 236, 71, 2, 0, 1011, 1012, 1013, 74, 1014) := ⟨(fun _ => rfl), (fun h => absurd h (by decide)), (fun h => absurd h (by decide)), (fun _ => rfl), (fun _ => rfl), rfl, rfl, rfl, (by decide +kernel), rfl, (by decide), (by decide), (fun h => absurd h (by decide))⟩
set_option maxRecDepth 100000 in
theorem mi_pc153 : mi_PC (11, 237, 80, 3, 0, 1015, 1016, 1017, 74, 1018) := ⟨(fun _ => rfl), (fun h => absurd h (by decide)), (fun h => absurd h (by decide)), (fun _ => rfl), (fun _ => rfl), rfl, rfl, rfl, (by decide +kernel), rfl, (by decide), (by decide), (fun h => absurd h (by decide))⟩
set_option maxRecDepth 100000 in
theorem mi_pc154 : mi_PC (7, 41, 74, 2, 0, 1019, 725, 726, 74, 727) := ⟨(fun _ => rfl), (fun h => absurd h (by decide)), (fun h => absurd h (by decide)), (fun _ => rfl), (fun _ => rfl), rfl, rfl, rfl, (by decide +kernel), rfl, (by decide), (by decide), (fun h => absurd h (by decide))⟩
set_option maxRecDepth 100000 in
theorem mi_pc155 : mi_PC (7, 44, 77, 2, 0, 1020, 762, 763, 74, 764) := ⟨(fun _ => rfl), (fun h => absurd h (by decide)), (fun h => absurd h (by decide)), (fun _ => rfl), (fun _ => rfl), rfl, rfl, rfl, (by decide +kernel), rfl, (by decide), (by decide), (fun h => absurd h (by decide))⟩
set_option maxRecDepth 100000 in
theorem mi_pc156 : mi_PC (13, 112, 135, 2, 0, 1021, 1022, 1023, 69, 1024) := ⟨(fun _ => rfl), (fun h => absurd h (by decide)), (fun h => absurd h (by decide)), (fun _ => rfl), (fun _ => rfl), rfl, rfl, rfl, (by decide +kernel), rfl, (by decide), (by decide), (fun h => absurd h (by decide))⟩
set_option maxRecDepth 100000 in
theorem mi_pc157 : mi_PC (11, 238, 104, 2, 0, 1025, 1026, 1027, 80, 1028) := ⟨(fun _ => rfl), (fun h => absurd h (by decide)), (fun h => absurd h (by decide)), (fun _ => rfl), (fun _ => rfl), rfl, rfl, rfl, (by decide +kernel), rfl, (by decide), (by decide), (fun h => absurd h (by decide))⟩
set_option maxRecDepth 100000 in
theorem mi_pc158 : mi_PC (10, 31, 103, 1, 0, 1029, 838, 839, 80, 840) := ⟨(fun _ => rfl), (fun h => absurd h (by decide)), (fun h => absurd h (by decide)), (fun _ => rfl), (fun _ => rfl), rfl, rfl, rfl, (by decide +kernel), rfl, (by decide), (by decide), (fun h => absurd h (by decide))⟩
set_option maxRecDepth 100000 in
theorem mi_pc159 : mi_PC (10, 34, 105, 1, 0, 1030, 1032, 27, 80, 1033) := ⟨(fun _ => rfl), (fun h => absurd h (by decide)), (fun h => absurd h (by decide)), (fun _ => rfl), (fun _ => rfl), rfl, rfl, rfl, (by decide +kernel), rfl, (by decide), (by decide), (fun h => absurd h (by decide))⟩
set_option maxRecDepth 100000 in
theorem mi_pc160 : mi_PC (10, 54, 3, 2, 0, 1035, 544, 545, 71, 546) := ⟨(fun _ => rfl), (fun h => absurd h (by decide)), (fun h => absurd h (by decide)), (fun _ => rfl), (fun _ => rfl), rfl, rfl, rfl, (by decide +kernel), rfl, (by decide), (by decide), (fun h => absurd h (by decide))⟩
set_option maxRecDepth 100000 in
theorem mi_pc161 : mi_PC (10, 67, 109, 2, 0, 1037, 1039, 28, 80, 1040) := ⟨(fun _ => rfl), (fun h => absurd h (by decide)), (fun h => absurd h (by decide)), (fun _ => rfl), (fun _ => rfl), rfl, rfl, rfl, (by decide +kernel), rfl, (by decide), (by decide), (fun h => absurd h (by decide))⟩
set_option maxRecDepth 100000 in
theorem mi_pc162 : mi_PC (10, 87, 111, 2, 0, 1041, 1043, 29, 80, 1044) := ⟨(fun _ => rfl), (fun h => absurd h (by decide)), (fun h => absurd h (by decide)), (fun _ => rfl), (fun _ => rfl), rfl, rfl, rfl, (by decide +kernel), rfl, (by decide), (by decide), (fun h => absurd h (by decide))⟩
set_option maxRecDepth 100000 in
theorem mi_pc163 : mi_PC (10, 100, 11, 3, 0, 1046, 963, 964, 71, 965) := ⟨(fun _ => rfl), (fun h => absurd h (by decide)), (fun h => absurd h (by decide)), (fun _ => rfl), (fun _ => rfl), rfl, rfl, rfl, (by decide +kernel), rfl, (by decide), (by decide), (fun h => absurd h (by decide))⟩
set_option maxRecDepth 100000 in
theorem mi_pc164 : mi_PC (10, 90, 110, 2, 0, 1047, 1049, 30, 80, 1050) := ⟨(fun _ => rfl), (fun h => absurd h (by decide)), (fun h => absurd h (by decide)), (fun _ => rfl), (fun _ => rfl), rfl, rfl, rfl, (by decide +kernel), rfl, (by decide), (by decide), (fun h => absurd h (by decide))⟩
set_option maxRecDepth 100000 in
theorem mi_pc165 : mi_PC (10, 37, 106, 4, 1, 1053, 1054, 0, 80, 1055) := ⟨(fun _ => rfl), (fun h => absurd h (by decide)), (fun _ => rfl), (fun h => absurd h (by decide)), (fun h => absurd h (by decide)), rfl, rfl, rfl, (by decide +kernel), rfl, (by decide), (by decide), (fun h => absurd h (by decide))⟩
set_option maxRecDepth 100000 in
theorem mi_pc166 : mi_PC (10, 41, 107, 1, 0, 1056, 1058, 31, 80, 1059) := ⟨(fun _ => rfl), (fun h => absurd h (by decide)), (fun h => absurd h (by decide)), (fun _ => rfl), (fun _ => rfl), rfl, rfl, rfl, (by decide +kernel), rfl, (by decide), (by decide), (fun h => absurd h (by decide))⟩
set_option maxRecDepth 100000 in
theorem mi_pc167 : mi_PC (10, 76, 13, 2, 0, 1060, 1061, 1062, 71, 1063) := ⟨(fun _ => rfl), (fun h => absurd h (by decide)), (fun h => absurd h (by decide)), (fun _ => rfl), (fun _ => rfl), rfl, rfl, rfl, (by decide +kernel), rfl, (by decide), (by decide), (fun h => absurd h (by decide))⟩
set_option maxRecDepth 100000 in
theorem mi_pc168 : mi_PC (10, 83, 108, 3, 0, 1066, 1068, 32, 80, 1069) := ⟨(fun _ => rfl), (fun h => absurd h (by decide)), (fun h => absurd h (by decide)), (fun _ => rfl), (fun _ => rfl), rfl, rfl, rfl, (by decide +kernel), rfl, (by decide), (by decide), (fun h => absurd h (by decide))⟩
set_option maxRecDepth 100000 in
theorem mi_pc169 : mi_PC (13, 116, 136, 2, 0, 1070, 1071, 1072, 69, 1073) := ⟨(fun _ => rfl), (fun h => absurd h (by decide)), (fun h => absurd h (by decide)), (fun _ => rfl), (fun _ => rfl), rfl, rfl, rfl, (by decide +kernel), rfl, (by decide), (by decide), (fun h => absurd h (by decide))⟩
set_option maxRecDepth 100000 in
theorem mi_pc170 : mi_PC (13, 120, 137, 7, 0, 1074, 1075, 1076, 69, 1077) := ⟨(fun _ => rfl), (fun h => absurd h (by decide)), (fun h => absurd h (by decide)), (fun _ => rfl), (fun _ => rfl), rfl, rfl, rfl, (by decide +kernel), rfl, (by decide), (by decide), (fun h => absurd h (by decide))⟩
set_option maxRecDepth 100000 in
theorem mi_pc171 : mi_PC (11, 248, 144, 1, 1, 1078, 1079, 0, 69, 1080) := ⟨(fun _ => rfl), (fun h => absurd h (by decide)), (fun _ => rfl), (fun h => absurd h (by decide)), (fun h => absurd h (by decide)), rfl, rfl, rfl, (by decide +kernel), rfl, (by decide), (by decide), (fun h => absurd h (by decide))⟩
set_option maxRecDepth 100000 in
theorem mi_pc172 : mi_PC (13, 125, 138, 2, 0, 1081, 1082, 1083, 69, 1084) := ⟨(fun _ => rfl), (fun h => absurd h (by decide)), (fun h => absurd h (by decide)), (fun _ => rfl), (fun _ => rfl), rfl, rfl, rfl, (by decide +kernel), rfl, (by decide), (by decide), (fun h => absurd h (by decide))⟩
set_option maxRecDepth 100000 in
theorem mi_pc173 : mi_PC (11, 272, 139, 2, 0, 1085, 1087, 33, 69, 1088) := ⟨(fun _ => rfl), (fun h => absurd h (by decide)), (fun h => absurd h (by decide)), (fun _ => rfl), (fun _ => rfl), rfl, rfl, rfl, (by decide +kernel), rfl, (by decide), (by decide), (fun h => absurd h (by decide))⟩
set_option maxRecDepth 100000 in
theorem mi_pc174 : mi_PC (13, 12, 147, 1, 2, 1091, 1092, 0, 81, 1093) := ⟨(fun _ => rfl), (fun h => absurd h (by decide)), (fun h => absurd h (by decide)), (fun _ => rfl), (fun h => absurd h (by decide)), rfl, rfl, rfl, (by decide +kernel), rfl, (by decide), (by decide), (fun _ => ⟨rfl, rfl⟩)⟩
set_option maxRecDepth 100000 in
theorem mi_pc175 : mi_PC (13, 17, 157, 5, 0, 1244, 1245, 1246, 81, 1247) := ⟨(fun _ => rfl), (fun h => absurd h (by decide)), (fun h => absurd h (by decide)), (fun _ => rfl), (fun _ => rfl), rfl, rfl, rfl, (by decide +kernel), rfl, (by decide), (by decide), (fun h => absurd h (by decide))⟩
set_option maxRecDepth 100000 in
theorem mi_pc176 : mi_PC (12, 148, 149, 2, 0, 1248, 1250, 34, 81, 1251) := ⟨(fun _ => rfl), (fun h => absurd h (by decide)), (fun h => absurd h (by decide)), (fun _ => rfl), (fun _ => rfl), rfl, rfl, rfl, (by decide +kernel), rfl, (by decide), (by decide), (fun h => absurd h (by decide))⟩
set_option maxRecDepth 100000 in
theorem mi_pc177 : mi_PC (12, 116, 148, 3, 1, 1252, 1253, 0, 81, 1254) := ⟨(fun _ => rfl), (fun h => absurd h (by decide)), (fun _ => rfl), (fun h => absurd h (by decide)), (fun h => absurd h (by decide)), rfl, rfl, rfl, (by decide +kernel), rfl, (by decide), (by decide), (fun h => absurd h (by decide))⟩
set_option maxRecDepth 100000 in
theorem mi_pc178 : mi_PC (12, 156, 156, 2, 0, 1257, 1259, 35, 81, 1260) := ⟨(fun _ => rfl), (fun h => absurd h (by decide)), (fun h => absurd h (by decide)), (fun _ => rfl), (fun _ => rfl), rfl, rfl, rfl, (by decide +kernel), rfl, (by decide), (by decide), (fun h => absurd h (by decide))⟩
set_option maxRecDepth 100000 in
theorem mi_pc179 : mi_PC (12, 159, 150, 1, 0, 1261, 1263, 36, 81, 1264) := ⟨(fun _ => rfl), (fun h => absurd h (by decide)), (fun h => absurd h (by decide)), (fun _ => rfl), (fun _ => rfl), rfl, rfl, rfl, (by decide +kernel), rfl, (by decide), (by decide), (fun h => absurd h (by decide))⟩
set_option maxRecDepth 100000 in
theorem mi_pc180 : mi_PC (12, 162, 151, 2, 0, 1265, 1267, 37, 81, 1268) := ⟨(fun _ => rfl), (fun h => absurd h (by decide)), (fun h => absurd h (by decide)), (fun _ => rfl), (fun _ => rfl), rfl, rfl, rfl, (by decide +kernel), rfl, (by decide), (by decide), (fun h => absurd h (by decide))⟩
set_option maxRecDepth 100000 in
theorem mi_pc181 : mi_PC (12, 166, 152, 1, 0, 1272, 1274, 38, 81, 1275) := ⟨(fun _ => rfl), (fun h => absurd h (by decide)), (fun h => absurd h (by decide)), (fun _ => rfl), (fun _ => rfl), rfl, rfl, rfl, (by decide +kernel), rfl, (by decide), (by decide), (fun h => absurd h (by decide))⟩
set_option maxRecDepth 100000 in
theorem mi_pc182 : mi_PC (12, 170, 155, 2, 0, 1276, 1278, 39, 81, 1279) := ⟨(fun _ => rfl), (fun h => absurd h (by decide)), (fun h => absurd h (by decide)), (fun _ => rfl), (fun _ => rfl), rfl, rfl, rfl, (by decide +kernel), rfl, (by decide), (by decide), (fun h => absurd h (by decide))⟩
set_option maxRecDepth 100000 in
theorem mi_pc183 : mi_PC (12, 140, 153, 2, 1, 1281, 1282, 0, 81, 1283) := ⟨(fun _ => rfl), (fun h => absurd h (by decide)), (fun _ => rfl), (fun h => absurd h (by decide)), (fun h => absurd h (by decide)), rfl, rfl, rfl, (by decide +kernel), rfl, (by decide), (by decide), (fun h => absurd h (by decide))⟩
set_option maxRecDepth 100000 in
theorem mi_pc184 : mi_PC (12, 144, 154, 2, 0, 1285, 1287, 40, 81, 1288) := ⟨(fun _ => rfl), (fun h => absurd h (by decide)), (fun h => absurd h (by decide)), (fun _ => rfl), (fun _ => rfl), rfl, rfl, rfl, (by decide +kernel), rfl, (by decide), (by decide), (fun h => absurd h (by decide))⟩
set_option maxRecDepth 100000 in
theorem mi_pc185 : mi_PC (13, 22, 158, 3, 0, 1289, 1290, 1291, 81, 1292) := ⟨(fun _ => rfl), (fun h => absurd h (by decide)), (fun h => absurd h (by decide)), (fun _ => rfl), (fun _ => rfl), rfl, rfl, rfl, (by decide +kernel), rfl, (by decide), (by decide), (fun h => absurd h (by decide))⟩
set_option maxRecDepth 100000 in
theorem mi_pc186 : mi_PC (13, 27, 160, 2, 0, 1293, 1294, 1295, 81, 1296) := ⟨(fun _ => rfl), (fun h => absurd h (by decide)), (fun h => absurd h (by decide)), (fun _ => rfl), (fun _ => rfl), rfl, rfl, rfl, (by decide +kernel), rfl, (by decide), (by decide), (fun h => absurd h (by decide))⟩
set_option maxRecDepth 100000 in
theorem mi_pc187 : mi_PC (12, 176, 159, 2, 0, 1297, 1299, 41, 81, 1300) := ⟨(fun _ => rfl), (fun h => absurd h (by decide)), (fun h => absurd h (by decide)), (fun _ => rfl), (fun _ => rfl), rfl, rfl, rfl, (by decide +kernel), rfl, (by decide), (by decide), (fun h => absurd h (by decide))⟩
set_option maxRecDepth 100000 in
theorem mi_pc188 : mi_PC (13, 31, 161, 2, 0, 1301, 1302, 1303, 81, 1304) := ⟨(fun _ => rfl), (fun h => absurd h (by decide)), (fun h => absurd h (by decide)), (fun _ => rfl), (fun _ => rfl), rfl, rfl, rfl, (by decide +kernel), rfl, (by decide), (by decide), (fun h => absurd h (by decide))⟩
set_option maxRecDepth 100000 in
theorem mi_pc189 : mi_PC (13, 38, 162, 3, 0, 1305, 1306, 1307, 81, 1308) := ⟨(fun _ => rfl), (fun h => absurd h (by decide)), (fun h => absurd h (by decide)), (fun _ => rfl), (fun _ => rfl), rfl, rfl, rfl, (by decide +kernel), rfl, (by decide), (by decide), (fun h => absurd h (by decide))⟩
set_option maxRecDepth 100000 in
theorem mi_pc190 : mi_PC (13, 43, 163, 1, 0, 1311, 1312, 1313, 81, 1314) := ⟨(fun _ => rfl), (fun h => absurd h (by decide)), (fun h => absurd h (by decide)), (fun _ => rfl), (fun _ => rfl), rfl, rfl, rfl, (by decide +kernel), rfl, (by decide), (by decide), (fun h => absurd h (by decide))⟩
set_option maxRecDepth 100000 in
theorem mi_pc191 : mi_PC (13, 48, 171, 3, 0, 1315, 1316, 1317, 81, 1318) := ⟨(fun _ => rfl), (fun h => absurd h (by decide)), (fun h => absurd h (by decide)), (fun _ => rfl), (fun _ => rfl), rfl, rfl, rfl, (by decide +kernel), rfl, (by decide), (by decide), (fun h => absurd h (by decide))⟩
set_option maxRecDepth 100000 in
theorem mi_pc192 : mi_PC (12, 217, 164, 3, 0, 1319, 1321, 42, 81, 1322) := ⟨(fun _ => rfl), (fun h => absurd h (by decide)), (fun h => absurd h (by decide)), (fun _ => rfl), (fun _ => rfl), rfl, rfl, rfl, (by decide +kernel), rfl, (by decide), (by decide), (fun h => absurd h (by decide))⟩
set_option maxRecDepth 100000 in
theorem mi_pc193 : mi_PC (12, 221, 170, 3, 0, 1323, 1325, 43, 81, 1326) := ⟨(fun _ => rfl), (fun h => absurd h (by decide)), (fun h => absurd h (by decide)), (fun _ => rfl), (fun _ => rfl), rfl, rfl, rfl, (by decide +kernel), rfl, (by decide), (by decide), (fun h => absurd h (by decide))⟩
set_option maxRecDepth 100000 in
theorem mi_pc194 : mi_PC (12, 206, 169, 3, 0, 1327, 1329, 44, 81, 1330) := ⟨(fun _ => rfl), (fun h => absurd h (by decide)), (fun h => absurd h (by decide)), (fun _ => rfl), (fun _ => rfl), rfl, rfl, rfl, (by decide +kernel), rfl, (by decide), (by decide), (fun h => absurd h (by decide))⟩
set_option maxRecDepth 100000 in
theorem mi_pc195 : mi_PC (12, 210, 167, 2, 0, 1331, 1333, 45, 81, 1334) := ⟨(fun _ => rfl), (fun h => absurd h (by decide)), (fun h => absurd h (by decide)), (fun _ => rfl), (fun _ => rfl), rfl, rfl, rfl, (by decide +kernel), rfl, (by decide), (by decide), (fun h => absurd h (by decide))⟩
set_option maxRecDepth 100000 in
theorem mi_pc196 : mi_PC (12, 194, 165, 2, 0, 1335, 1337, 46, 81, 1338) := ⟨(fun _ => rfl), (fun h => absurd h (by decide)), (fun h => absurd h (by decide)), (fun _ => rfl), (fun _ => rfl), rfl, rfl, rfl, (by decide +kernel), rfl, (by decide), (by decide), (fun h => absurd h (by decide))⟩
set_option maxRecDepth 100000 in
theorem mi_pc197 : mi_PC (12, 200, 166, 1, 0, 1339, 1341, 47, 81, 1342) := ⟨(fun _ => rfl), (fun h => absurd h (by decide)), (fun h => absurd h (by decide)), (fun _ => rfl), (fun _ => rfl), rfl, rfl, rfl, (by decide +kernel), rfl, (by decide), (by decide), (fun h => absurd h (by decide))⟩
set_option maxRecDepth 100000 in
theorem mi_pc198 : mi_PC (12, 213, 168, 5, 0, 1345, 1347, 48, 81, 1348) := ⟨(fun _ => rfl), (fun h => absurd h (by decide)), (fun h => absurd h (by decide)), (fun _ => rfl), (fun _ => rfl), rfl, rfl, rfl, (by decide +kernel), rfl, (by decide), (by decide), (fun h => absurd h (by decide))⟩
set_option maxRecDepth 100000 in
theorem mi_pc199 : mi_PC (13, 52, 172, 3, 0, 1349, 1350, 1351, 81, 1352) := ⟨(fun _ => rfl), (fun h => absurd h (by decide)), (fun h => absurd h (by decide)), (fun _ => rfl), (fun _ => rfl), rfl, rfl, rfl, (by decide +kernel), rfl, (by decide), (by decide), (fun h => absurd h (by decide))⟩
set_option maxRecDepth 100000 in
theorem mi_pc200 : mi_PC (12, 224, 173, 2, 0, 1353, 1355, 49, 81, 1356) := ⟨(fun _ => rfl), (fun h => absurd h (by decide)), (fun h => absurd h (by decide)), (fun _ => rfl), (fun _ => rfl), rfl, rfl, rfl, (by decide +kernel), rfl, (by decide), (by decide), (fun h => absurd h (by decide))⟩
set_option maxRecDepth 100000 in
theorem mi_pc201 : mi_PC (13, 56, 176, 1, 0, 1357, 1358, 1359, 81, 1360) := ⟨(fun _ => rfl), (fun h => absurd h (by decide)), (fun h => absurd h (by decide)), (fun _ => rfl), (fun _ => rfl), rfl, rfl, rfl, (by decide +kernel), rfl, (by decide), (by decide), (fun h => absurd h (by decide))⟩
set_option maxRecDepth 100000 in
theorem mi_pc202 : mi_PC (12, 227, 175, 2, 0, 1361, 1363, 50, 81, 1364) := ⟨(fun _ => rfl), (fun h => absurd h (by decide)), (fun h => absurd h (by decide)), (fun _ => rfl), (fun _ => rfl), rfl, rfl, rfl, (by decide +kernel), rfl, (by decide), (by decide), (fun h => absurd h (by decide))⟩
set_option maxRecDepth 100000 in
theorem mi_pc203 : mi_PC (12, 230, 174, 4, 0, 1365, 1367, 51, 81, 1368) := ⟨(fun _ => rfl), (fun h => absurd h (by decide)), (fun h => absurd h (by decide)), (fun _ => rfl), (fun _ => rfl), rfl, rfl, rfl, (by decide +kernel), rfl, (by decide), (by decide), (fun h => absurd h (by decide))⟩
set_option maxRecDepth 100000 in
theorem mi_pc204 : mi_PC (13, 60, 177, 1, 0, 1369, 1370, 1371, 81, 1372) := ⟨(fun _ => rfl), (fun h => absurd h (by decide)), (fun h => absurd h (by decide)), (fun _ => rfl), (fun _ => rfl), rfl, rfl, rfl, (by decide +kernel), rfl, (by decide), (by decide), (fun h => absurd h (by decide))⟩
set_option maxRecDepth 100000 in
theorem mi_pc205 : mi_PC (13, 65, 179, 5, 0, 1373, 1374, 1375, 81, 1376) := ⟨(fun _ => rfl), (fun h => absurd h (by decide)), (fun h => absurd h (by decide)), (fun _ => rfl), (fun _ => rfl), rfl, rfl, rfl, (by decide +kernel), rfl, (by decide), (by decide), (fun h => absurd h (by decide))⟩
set_option maxRecDepth 100000 in
theorem mi_pc206 : mi_PC (12, 241, 178, 2, 0, 1378, 1380, 52, 81, 1381) := ⟨(fun _ => rfl), (fun h => absurd h (by decide)), (fun h => absurd h (by decide)), (fun _ => rfl), (fun _ => rfl), rfl, rfl, rfl, (by decide +kernel), rfl, (by decide), (by decide), (fun h => absurd h (by decide))⟩
set_option maxRecDepth 100000 in
theorem mi_pc207 : mi_PC (13, 124, 180, 7, 0, 1383, 1384, 1385, 81, 1386) := ⟨(fun _ => rfl), (fun h => absurd h (by decide)), (fun h => absurd h (by decide)), (fun _ => rfl), (fun _ => rfl), rfl, rfl, rfl, (by decide +kernel), rfl, (by decide), (by decide), (fun h => absurd h (by decide))⟩
set_option maxRecDepth 100000 in
theorem mi_pc208 : mi_PC (13, 69, 181, 1, 0, 1389, 1390, 1391, 81, 1392) := ⟨(fun _ => rfl), (fun h => absurd h (by decide)), (fun h => absurd h (by decide)), (fun _ => rfl), (fun _ => rfl), rfl, rfl, rfl, (by decide +kernel), rfl, (by decide), (by decide), (fun h => absurd h (by decide))⟩
set_option maxRecDepth 100000 in
theorem mi_pc209 : mi_PC (13, 73, 182, 3, 0, 1393, 1394, 1395, 81, 1396) := ⟨(fun _ => rfl), (fun h => absurd h (by decide)), (fun h => absurd h (by decide)), (fun _ => rfl), (fun _ => rfl), rfl, rfl, rfl, (by decide +kernel), rfl, (by decide), (by decide), (fun h => absurd h (by decide))⟩
set_option maxRecDepth 100000 in
theorem mi_pc210 : mi_PC (13, 77, 190, 1, 0, 1398, 1399, 1400, 81, 1401) := ⟨(fun _ => rfl), (fun h => absurd h (by decide)), (fun h => absurd h (by decide)), (fun _ => rfl), (fun _ => rfl), rfl, rfl, rfl, (by decide +kernel), rfl, (by decide), (by decide), (fun h => absurd h (by decide))⟩
set_option maxRecDepth 100000 in
theorem mi_pc211 : mi_PC (12, 313, 189, 1, 0, 1402, 1404, 53, 81, 1405) := ⟨(fun _ => rfl), (fun h => absurd h (by decide)), (fun h => absurd h (by decide)), (fun _ => rfl), (fun _ => rfl), rfl, rfl, rfl, (by decide +kernel), rfl, (by decide), (by decide), (fun h => absurd h (by decide))⟩
set_option maxRecDepth 100000 in
theorem mi_pc212 : mi_PC (12, 310, 187, 2, 0, 1406, 1408, 54, 81, 1409) := ⟨(fun _ => rfl), (fun h => absurd h (by decide)), (fun h => absurd h (by decide)), (fun _ => rfl), (fun _ => rfl), rfl, rfl, rfl, (by decide +kernel), rfl, (by decide), (by decide), (fun h => absurd h (by decide))⟩
set_option maxRecDepth 100000 in
theorem mi_pc213 : mi_PC (12, 273, 184, 1, 0, 1410, 1412, 55, 81, 1413) := ⟨(fun _ => rfl), (fun h => absurd h (by decide)), (fun h => absurd h (by decide)), (fun _ => rfl), (fun _ => rfl), rfl, rfl, rfl, (by decide +kernel), rfl, (by decide), (by decide), (fun h => absurd h (by decide))⟩
set_option maxRecDepth 100000 in
theorem mi_pc214 : mi_PC (12, 265, 183, 1, 0, 1414, 1416, 56, 81, 1417) := ⟨(fun _ => rfl), (fun h => absurd h (by decide)), (fun h => absurd h (by decide)), (fun _ => rfl), (fun _ => rfl), rfl, rfl, rfl, (by decide +kernel), rfl, (by decide), (by decide), (fun h => absurd h (by decide))⟩
set_option maxRecDepth 100000 in
theorem mi_pc215 : mi_PC (12, 277, 185, 1, 0, 1420, 1422, 57, 81, 1423) := ⟨(fun _ => rfl), (fun h => absurd h (by decide)), (fun h => absurd h (by decide)), (fun _ => rfl), (fun _ => rfl), rfl, rfl, rfl, (by decide +kernel), rfl, (by decide), (by decide), (fun h => absurd h (by decide))⟩
set_option maxRecDepth 100000 in
theorem mi_pc216 : mi_PC (12, 280, 186, 1, 0, 1424, 1426, 58, 81, 1427) := ⟨(fun _ => rfl), (fun h => absurd h (by decide)), (fun h => absurd h (by decide)), (fun _ => rfl), (fun _ => rfl), rfl, rfl, rfl, (by decide +kernel), rfl, (by decide), (by decide), (fun h => absurd h (by decide))⟩
set_option maxRecDepth 100000 in
theorem mi_pc217 : mi_PC (12, 283, 157, 5, 0, 1428, 1245, 1246, 81, 1247) := ⟨(fun _ => rfl), (fun h => absurd h (by decide)), (fun h => absurd h (by decide)), (fun _ => rfl), (fun _ => rfl), rfl, rfl, rfl, (by decide +kernel), rfl, (by decide), (by decide), (fun h => absurd h (by decide))⟩
set_option maxRecDepth 100000 in
theorem mi_pc218 : mi_PC (12, 287, 158, 3, 0, 1429, 1290, 1291, 81, 1292) := ⟨(fun _ => rfl), (fun h => absurd h (by decide)), (fun h => absurd h (by decide)), (fun _ => rfl), (fun _ => rfl), rfl, rfl, rfl, (by decide +kernel), rfl, (by decide), (by decide), (fun h => absurd h (by decide))⟩
set_option maxRecDepth 100000 in
theorem mi_pc219 : mi_PC (12, 291, 160, 2, 0, 1430, 1294, 1295, 81, 1296) := ⟨(fun _ => rfl), (fun h => absurd h (by decide)), (fun h => absurd h (by decide)), (fun _ => rfl), (fun _ => rfl), rfl, rfl, rfl, (by decide +kernel), rfl, (by decide), (by decide), (fun h => absurd h (by decide))⟩
set_option maxRecDepth 100000 in
theorem mi_pc220 : mi_PC (12, 294, 161, 2, 0, 1431, 1302, 1303, 81, 1304) := ⟨(fun _ => rfl), (fun h => absurd h (by decide)), (fun h => absurd h (by decide)), (fun _ => rfl), (fun _ => rfl), rfl, rfl, rfl, (by decide +kernel), rfl, (by decide), (by decide), (fun h => absurd h (by decide))⟩
set_option maxRecDepth 100000 in
theorem mi_pc221 : mi_PC (12, 296, 188, 1, 0, 1432, 1434, 59, 81, 1435) := ⟨(fun _ => rfl), (fun h => absurd h (by decide)), (fun h => absurd h (by decide)), (fun _ => rfl), (fun _ => rfl), rfl, rfl, rfl, (by decide +kernel), rfl, (by decide), (by decide), (fun h => absurd h (by decide))⟩
set_option maxRecDepth 100000 in
theorem mi_pc222 : mi_PC (12, 299, 172, 3, 0, 1437, 1350, 1351, 81, 1352) := ⟨(fun _ => rfl), (fun h => absurd h (by decide)), (fun h => absurd h (by decide)), (fun _ => rfl), (fun _ => rfl), rfl, rfl, rfl, (by decide +kernel), rfl, (by decide), (by decide), (fun h => absurd h (by decide))⟩
set_option maxRecDepth 100000 in
theorem mi_pc223 : mi_PC (12, 302, 176, 1, 0, 1438, 1358, 1359, 81, 1360) := ⟨(fun _ => rfl), (fun h => absurd h (by decide)), (fun h => absurd h (by decide)), (fun _ => rfl), (fun _ => rfl), rfl, rfl, rfl, (by decide +kernel), rfl, (by decide), (by decide), (fun h => absurd h (by decide))⟩
set_option maxRecDepth 100000 in
theorem mi_pc224 : mi_PC (12, 305, 177, 1, 0, 1439, 1370, 1371, 81, 1372) := ⟨(fun _ => rfl), (fun h => absurd h (by decide)), (fun h => absurd h (by decide)), (fun _ => rfl), (fun _ => rfl), rfl, rfl, rfl, (by decide +kernel), rfl, (by decide), (by decide), (fun h => absurd h (by decide))⟩
set_option maxRecDepth 100000 in
theorem mi_pc225 : mi_PC (13, 81, 191, 2, 0, 1440, 1441, 1442, 81, 1443) := ⟨(fun _ => rfl), (fun h => absurd h (by decide)), (fun h => absurd h (by decide)), (fun _ => rfl), (fun _ => rfl), rfl, rfl, rfl, (by decide +kernel), rfl, (by decide), (by decide), (fun h => absurd h (by decide))⟩
set_option maxRecDepth 100000 in
theorem mi_pc226 : mi_PC (13, 85, 192, 3, 0, 1444, 1445, 1446, 81, 1447) := ⟨(fun _ => rfl), (fun h => absurd h (by decide)), (fun h => absurd h (by decide)), (fun _ => rfl), (fun _ => rfl), rfl, rfl, rfl, (by decide +kernel), rfl, (by decide), (by decide), (fun h => absurd h (by decide))⟩
set_option maxRecDepth 100000 in
theorem mi_pc227 : mi_PC (13, 90, 195, 2, 0, 1448, 1449, 1450, 81, 1451) := ⟨(fun _ => rfl), (fun h => absurd h (by decide)), (fun h => absurd h (by decide)), (fun _ => rfl), (fun _ => rfl), rfl, rfl, rfl, (by decide +kernel), rfl, (by decide), (by decide), (fun h => absurd h (by decide))⟩
set_option maxRecDepth 100000 in
theorem mi_pc228 : mi_PC (12, 320, 194, 2, 0, 1452, 1454, 60, 81, 1455) := ⟨(fun _ => rfl), (fun h => absurd h (by decide)), (fun h => absurd h (by decide)), (fun _ => rfl), (fun _ => rfl), rfl, rfl, rfl, (by decide +kernel), rfl, (by decide), (by decide), (fun h => absurd h (by decide))⟩
set_option maxRecDepth 100000 in
theorem mi_pc229 : mi_PC (12, 316, 193, 3, 0, 1456, 1458, 61, 81, 1459) := ⟨(fun _ => rfl), (fun h => absurd h (by decide)), (fun h => absurd h (by decide)), (fun _ => rfl), (fun _ => rfl), rfl, rfl, rfl, (by decide +kernel), rfl, (by decide), (by decide), (fun h => absurd h (by decide))⟩
set_option maxRecDepth 100000 in
theorem mi_pc230 : mi_PC (13, 95, 196, 4, 0, 1460, 1461, 1462, 81, 1463) := ⟨(fun _ => rfl), (fun h => absurd h (by decide)), (fun h => absurd h (by decide)), (fun _ => rfl), (fun _ => rfl), rfl, rfl, rfl, (by decide +kernel), rfl, (by decide), (by decide), (fun h => absurd h (by decide))⟩
set_option maxRecDepth 100000 in
theorem mi_pc231 : mi_PC (13, 99, 197, 3, 0, 1464, 1465, 1466, 81, 1467) := ⟨(fun _ => rfl), (fun h => absurd h (by decide)), (fun h => absurd h (by decide)), (fun _ => rfl), (fun _ => rfl), rfl, rfl, rfl, (by decide +kernel), rfl, (by decide), (by decide), (fun h => absurd h (by decide))⟩
set_option maxRecDepth 100000 in
theorem mi_pc232 : mi_PC (13, 103, 198, 4, 0, 1468, 1469, 1470, 81, 1471) := ⟨(fun _ => rfl), (fun h => absurd h (by decide)), (fun h => absurd h (by decide)), (fun _ => rfl), (fun _ => rfl), rfl, rfl, rfl, (by decide +kernel), rfl, (by decide), (by decide), (fun h => absurd h (by decide))⟩
set_option maxRecDepth 100000 in
theorem mi_pc233 : mi_PC (13, 107, 199, 4, 0, 1472, 1473, 1474, 81, 1475) := ⟨(fun _ => rfl), (fun h => absurd h (by decide)), (fun h => absurd h (by decide)), (fun _ => rfl), (fun _ => rfl), rfl, rfl, rfl, (by decide +kernel), rfl, (by decide), (by decide), (fun h => absurd h (by decide))⟩
set_option maxRecDepth 100000 in
theorem mi_pc234 : mi_PC (13, 111, 200, 3, 0, 1476, 1477, 1478, 81, 1479) := ⟨(fun _ => rfl), (fun h => absurd h (by decide)), (fun h => absurd h (by decide)), (fun _ => rfl), (fun _ => rfl), rfl, rfl, rfl, (by decide +kernel), rfl, (by decide), (by decide), (fun h => absurd h (by decide))⟩
set_option maxRecDepth 100000 in
theorem mi_pc235 : mi_PC (13, 115, 207, 2, 0, 1480, 1481, 1482, 81, 1483) := ⟨(fun _ => rfl), (fun h => absurd h (by decide)), (fun h => absurd h (by decide)), (fun _ => rfl), (fun _ => rfl), rfl, rfl, rfl, (by decide +kernel), rfl, (by decide), (by decide), (fun h => absurd h (by decide))⟩
set_option maxRecDepth 100000 in
theorem mi_pc236 : mi_PC (12, 332, 203, 2, 0, 1484, 1486, 62, 81, 1487) := ⟨(fun _ => rfl), (fun h => absurd h (by decide)), (fun h => absurd h (by decide)), (fun _ => rfl), (fun _ => rfl), rfl, rfl, rfl, (by decide +kernel), rfl, (by decide), (by decide), (fun h => absurd h (by decide))⟩
set_option maxRecDepth 100000 in
theorem mi_pc237 : mi_PC (12, 324, 201, 2, 0, 1488, 1490, 63, 81, 1491) := ⟨(fun _ => rfl), (fun h => absurd h (by decide)), (fun h => absurd h (by decide)), (fun _ => rfl), (fun _ => rfl), rfl, rfl, rfl, (by decide +kernel), rfl, (by decide), (by decide), (fun h => absurd h (by decide))⟩
set_option maxRecDepth 100000 in
theorem mi_pc238 : mi_PC (12, 329, 202, 2, 0, 1492, 1494, 64, 81, 1495) := ⟨(fun _ => rfl), (fun h => absurd h (by decide)), (fun h => absurd h (by decide)), (fun _ => rfl), (fun _ => rfl), rfl, rfl, rfl, (by decide +kernel), rfl, (by decide), (by decide), (fun h => absurd h (by decide))⟩
set_option maxRecDepth 100000 in
theorem mi_pc239 : mi_PC (12, 338, 204, 1, 0, 1497, 1499, 65, 81, 1500) := ⟨(fun _ => rfl), (fun h => absurd h (by decide)), (fun h => absurd h (by decide)), (fun _ => rfl), (fun _ => rfl), rfl, rfl, rfl, (by decide +kernel), rfl, (by decide), (by decide), (fun h => absurd h (by decide))⟩
set_option maxRecDepth 100000 in
theorem mi_pc240 : mi_PC (12, 341, 206, 3, 0, 1501, 1503, 66, 81, 1504) := ⟨(fun _ => rfl), (fun h => absurd h (by decide)), (fun h => absurd h (by decide)), (fun _ => rfl), (fun _ => rfl), rfl, rfl, rfl, (by decide +kernel), rfl, (by decide), (by decide), (fun h => absurd h (by decide))⟩
set_option maxRecDepth 100000 in
theorem mi_pc241 : mi_PC (12, 335, 205, 2, 0, 1505, 1507, 67, 81, 1508) := ⟨(fun _ => rfl), (fun h => absurd h (by decide)), (fun h => absurd h (by decide)), (fun _ => rfl), (fun _ => rfl), rfl, rfl, rfl, (by decide +kernel), rfl, (by decide), (by decide), (fun h => absurd h (by decide))⟩
set_option maxRecDepth 100000 in
theorem mi_pc242 : mi_PC (13, 119, 208, 2, 0, 1509, 1510, 1511, 81, 1512) := ⟨(fun _ => rfl), (fun h => absurd h (by decide)), (fun h => absurd h (by decide)), (fun _ => rfl), (fun _ => rfl), rfl, rfl, rfl, (by decide +kernel), rfl, (by decide), (by decide), (fun h => absurd h (by decide))⟩
set_option maxRecDepth 100000 in
theorem mi_pc243 : mi_PC (13, 128, 209, 2, 0, 1513, 1514, 1515, 81, 1516) := ⟨(fun _ => rfl), (fun h => absurd h (by decide)), (fun h => absurd h (by decide)), (fun _ => rfl), (fun _ => rfl), rfl, rfl, rfl, (by decide +kernel), rfl, (by decide), (by decide), (fun h => absurd h (by decide))⟩
set_option maxRecDepth 100000 in
theorem mi_pc244 : mi_PC (11, 9, 15, 1, 3, 95, 96, 0, 70, 97) := ⟨(fun h => absurd h (by decide)), (fun _ => rfl), (fun h => absurd h (by decide)), (fun _ => rfl), (fun h => absurd h (by decide)), rfl, rfl, rfl, (by decide +kernel), rfl, (by decide), (by decide), (fun _ => ⟨rfl, rfl⟩)⟩
set_option maxRecDepth 100000 in
theorem mi_pc245 : mi_PC (1, 11, 0, 1, 3, 101, 102, 0, 71, 103) := ⟨(fun h => absurd h (by decide)), (fun _ => rfl), (fun h => absurd h (by decide)), (fun _ => rfl), (fun h => absurd h (by decide)), rfl, rfl, rfl, (by decide +kernel), rfl, (by decide), (by decide), (fun _ => ⟨rfl, rfl⟩)⟩
set_option maxRecDepth 100000 in
theorem mi_pc246 : mi_PC (1, 20, 69, 1, 3, 180, 181, 0, 74, 182) := ⟨(fun h => absurd h (by decide)), (fun _ => rfl), (fun h => absurd h (by decide)), (fun _ => rfl), (fun h => absurd h (by decide)), rfl, rfl, rfl, (by decide +kernel), rfl, (by decide), (by decide), (fun _ => ⟨rfl, rfl⟩)⟩
set_option maxRecDepth 100000 in
theorem mi_pc247 : mi_PC (1, 27, 37, 1, 3, 205, 206, 0, 75, 207) := ⟨(fun h => absurd h (by decide)), (fun _ => rfl), (fun h => absurd h (by decide)), (fun _ => rfl), (fun h => absurd h (by decide)), rfl, rfl, rfl, (by decide +kernel), rfl, (by decide), (by decide), (fun _ => ⟨rfl, rfl⟩)⟩
set_option maxRecDepth 100000 in
theorem mi_pc248 : mi_PC (11, 18, 51, 1, 3, 279, 280, 0, 76, 281) := ⟨(fun h => absurd h (by decide)), (fun _ => rfl), (fun h => absurd h (by decide)), (fun _ => rfl), (fun h => absurd h (by decide)), rfl, rfl, rfl, (by decide +kernel), rfl, (by decide), (by decide), (fun _ => ⟨rfl, rfl⟩)⟩
set_option maxRecDepth 100000 in
theorem mi_pc249 : mi_PC (11, 46, 96, 1, 3, 370, 371, 0, 79, 372) := ⟨(fun h => absurd h (by decide)), (fun _ => rfl), (fun h => absurd h (by decide)), (fun _ => rfl), (fun h => absurd h (by decide)), rfl, rfl, rfl, (by decide +kernel), rfl, (by decide), (by decide), (fun _ => ⟨rfl, rfl⟩)⟩
set_option maxRecDepth 100000 in
theorem mi_pc250 : mi_PC (1, 85, 145, 1, 4, 599, 600, 0, 69, 601) := ⟨(fun h => absurd h (by decide)), (fun _ => rfl), (fun _ => rfl), (fun h => absurd h (by decide)), (fun h => absurd h (by decide)), rfl, rfl, rfl, (by decide +kernel), rfl, (by decide), (by decide), (fun h => absurd h (by decide))⟩
set_option maxRecDepth 100000 in
theorem mi_pc251 : mi_PC (1, 127, 146, 2, 4, 658, 604, 0, 69, 605) := ⟨(fun h => absurd h (by decide)), (fun _ => rfl), (fun _ => rfl), (fun h => absurd h (by decide)), (fun h => absurd h (by decide)), rfl, rfl, rfl, (by decide +kernel), rfl, (by decide), (by decide), (fun h => absurd h (by decide))⟩
set_option maxRecDepth 100000 in
theorem mi_tC_ok : ∀ e ∈ mi_tC, mi_PC e := List.forall_mem_cons.mpr ⟨mi_pc0, List.forall_mem_cons.mpr ⟨mi_pc1, List.forall_mem_cons.mpr ⟨mi_pc2, List.forall_mem_cons.mpr ⟨mi_pc3, List.forall_mem_cons.mpr ⟨mi_pc4, List.forall_mem_cons.mpr ⟨mi_pc5, List.forall_mem_cons.mpr ⟨mi_pc6, List.forall_mem_cons.mpr ⟨mi_pc7, List.forall_mem_cons.mpr ⟨mi_pc8, List.forall_mem_cons.mpr ⟨mi_pc9, List.forall_mem_cons.mpr ⟨mi_pc10, List.forall_mem_cons.mpr ⟨mi_pc11, List.forall_mem_cons.mpr ⟨mi_pc12, List.forall_mem_cons.mpr ⟨mi_pc13, List.forall_mem_cons.mpr ⟨mi_pc14, List.forall_mem_cons.mpr ⟨mi_pc15, List.forall_mem_cons.mpr ⟨mi_pc16, List.forall_mem_cons.mpr ⟨mi_pc17, List.forall_mem_cons.mpr ⟨mi_pc18, List.forall_mem_cons.mpr ⟨mi_pc19, List.forall_mem_cons.mpr ⟨mi_pc20, List.forall_mem_cons.mpr ⟨mi_pc21, List.forall_mem_cons.mpr ⟨mi_pc22, List.forall_mem_cons.mpr ⟨mi_pc23, List.forall_mem_cons.mpr ⟨mi_pc24, List.forall_mem_cons.mpr ⟨mi_pc25, List.forall_mem_cons.mpr ⟨mi_pc26, List.forall_mem_cons.mpr ⟨mi_pc27, List.forall_mem_cons.mpr ⟨mi_pc28, List.forall_mem_cons.mpr ⟨mi_pc29, List.forall_mem_cons.mpr ⟨mi_pc30, List.forall_mem_cons.mpr ⟨mi_pc31, List.forall_mem_cons.mpr ⟨mi_pc32, List.forall_mem_cons.mpr ⟨mi_pc33, List.forall_mem_cons.mpr ⟨mi_pc34, List.forall_mem_cons.mpr ⟨mi_pc35, List.forall_mem_cons.mpr ⟨mi_pc36, List.forall_mem_cons.mpr ⟨mi_pc37, List.forall_mem_cons.mpr ⟨mi_pc38, List.forall_mem_cons.mpr ⟨mi_pc39, List.forall_mem_cons.mpr ⟨mi_pc40, List.forall_mem_cons.mpr ⟨mi_pc41, List.forall_mem_cons.mpr ⟨mi_pc42, List.forall_mem_cons.mpr ⟨mi_pc43, List.forall_mem_cons.mpr ⟨mi_pc44, List.forall_mem_cons.mpr ⟨mi_pc45, List.forall_mem_cons.mpr ⟨mi_pc46, List.forall_mem_cons.mpr ⟨mi_pc47, List.forall_mem_cons.mpr ⟨mi_pc48, List.forall_mem_cons.mpr ⟨mi_pc49, List.forall_mem_cons.mpr ⟨mi_pc50, List.forall_mem_cons.mpr ⟨mi_pc51, List.forall_mem_cons.mpr ⟨mi_pc52, List.forall_mem_cons.mpr ⟨mi_pc53, List.forall_mem_cons.mpr ⟨mi_pc54, List.forall_mem_cons.mpr ⟨mi_pc55, List.forall_mem_cons.mpr ⟨mi_pc56, List.forall_mem_cons.mpr ⟨mi_pc57, List.forall_mem_cons.mpr ⟨mi_pc58, List.forall_mem_cons.mpr ⟨mi_pc59, List.forall_mem_cons.mpr ⟨mi_pc60, List.forall_mem_cons.mpr ⟨mi_pc61, List.forall_mem_cons.mpr ⟨mi_pc62, List.forall_mem_cons.mpr ⟨mi_pc63, List.forall_mem_cons.mpr ⟨mi_pc64, List.forall_mem_cons.mpr ⟨mi_pc65, List.forall_mem_cons.mpr ⟨mi_pc66, List.forall_mem_cons.mpr ⟨mi_pc67, List.forall_mem_cons.mpr ⟨mi_pc68, List.forall_mem_cons.mpr ⟨mi_pc69, List.forall_mem_cons.mpr ⟨mi_pc70, List.forall_mem_cons.mpr ⟨mi_pc71, List.forall_mem_cons.mpr ⟨mi_pc72, List.forall_mem_cons.mpr ⟨mi_pc73, List.forall_mem_cons.mpr ⟨mi_pc74, List.forall_mem_cons.mpr ⟨mi_pc75, List.forall_mem_cons.mpr ⟨mi_pc76, List.forall_mem_cons.mpr ⟨mi_pc77, List.forall_mem_cons.mpr ⟨mi_pc78, List.forall_mem_cons.mpr ⟨mi_pc79, List.forall_mem_cons.mpr ⟨mi_pc80, List.forall_mem_cons.mpr ⟨mi_pc81, List.forall_mem_cons.mpr ⟨mi_pc82, List.forall_mem_cons.mpr ⟨mi_pc83, List.forall_mem_cons.mpr ⟨mi_pc84, List.forall_mem_cons.mpr ⟨mi_pc85, List.forall_mem_cons.mpr ⟨mi_pc86, List.forall_mem_cons.mpr ⟨mi_pc87, List.forall_mem_cons.mpr ⟨mi_pc88, List.forall_mem_cons.mpr ⟨mi_pc89, List.forall_mem_cons.mpr ⟨mi_pc90, List.forall_mem_cons.mpr ⟨mi_pc91, List.forall_mem_cons.mpr ⟨mi_pc92, List.forall_mem_cons.mpr ⟨mi_pc93, List.forall_mem_cons.mpr ⟨mi_pc94, List.forall_mem_cons.mpr ⟨mi_pc95, List.forall_mem_cons.mpr ⟨mi_pc96, List.forall_mem_cons.mpr ⟨mi_pc97, List.forall_mem_cons.mpr ⟨mi_pc98, List.forall_mem_cons.mpr ⟨mi_pc99, List.forall_mem_cons.mpr ⟨mi_pc100, List.forall_mem_cons.mpr ⟨mi_pc101, List.forall_mem_cons.mpr ⟨mi_pc102, List.forall_mem_cons.mpr ⟨mi_pc103, List.forall_mem_cons.mpr ⟨mi_pc104, List.forall_mem_cons.mpr ⟨mi_pc105, List.forall_mem_cons.mpr ⟨mi_pc106, List.forall_mem_cons.mpr ⟨mi_pc107, List.forall_mem_cons.mpr ⟨mi_pc108, List.forall_mem_cons.mpr ⟨mi_pc109, List.forall_mem_cons.mpr ⟨mi_pc110, List.forall_mem_cons.mpr ⟨mi_pc111, List.forall_mem_cons.mpr ⟨mi_pc112, List.forall_mem_cons.mpr ⟨mi_pc113, List.forall_mem_cons.mpr ⟨mi_pc114, List.forall_mem_cons.mpr ⟨mi_pc115, List.forall_mem_cons.mpr ⟨mi_pc116, List.forall_mem_cons.mpr ⟨mi_pc117, List.forall_mem_cons.mpr ⟨mi_pc118, List.forall_mem_cons.mpr ⟨mi_pc119, List.forall_mem_cons.mpr ⟨mi_pc120, List.forall_mem_cons.mpr ⟨mi_pc121, List.forall_mem_cons.mpr ⟨mi_pc122, List.forall_mem_cons.mpr ⟨mi_pc123, List.forall_mem_cons.mpr ⟨mi_pc124, List.forall_mem_cons.mpr ⟨mi_pc125, List.forall_mem_cons.mpr ⟨mi_pc126, List.forall_mem_cons.mpr ⟨mi_pc127, List.forall_mem_cons.mpr ⟨mi_pc128, List.forall_mem_cons.mpr ⟨mi_pc129, List.forall_mem_cons.mpr ⟨mi_pc130, List.forall_mem_cons.mpr ⟨mi_pc131, List.forall_mem_cons.mpr ⟨mi_pc132, List.forall_mem_cons.mpr ⟨mi_pc133, List.forall_mem_cons.mpr ⟨mi_pc134, List.forall_mem_cons.mpr ⟨mi_pc135, List.forall_mem_cons.mpr ⟨mi_pc136, List.forall_mem_cons.mpr ⟨mi_pc137, List.forall_mem_cons.mpr ⟨mi_pc138, List.forall_mem_cons.mpr ⟨mi_pc139, List.forall_mem_cons.mpr ⟨mi_pc140, List.forall_mem_cons.mpr ⟨mi_pc141, List.forall_mem_cons.mpr ⟨mi_pc142, List.forall_mem_cons.mpr ⟨mi_pc143, List.forall_mem_cons.mpr ⟨mi_pc144, List.forall_mem_cons.mpr ⟨mi_pc145, List.forall_mem_cons.mpr ⟨mi_pc146, List.forall_mem_cons.mpr ⟨mi_pc147, List.forall_mem_cons.mpr ⟨mi_pc148, List.forall_mem_cons.mpr ⟨mi_pc149, List.forall_mem_cons.mpr ⟨mi_pc150, List.forall_mem_cons.mpr ⟨mi_pc151, List.forall_mem_cons.mpr ⟨mi_pc152, List.forall_mem_cons.mpr ⟨mi_pc153, List.forall_mem_cons.mpr ⟨mi_pc154, List.forall_mem_cons.mpr ⟨mi_pc155, List.forall_mem_cons.mpr ⟨mi_pc156, List.forall_mem_cons.mpr ⟨mi_pc157, List.forall_mem_cons.mpr ⟨mi_pc158, List.forall_mem_cons.mpr ⟨mi_pc159, List.forall_mem_cons.mpr ⟨mi_pc160, List.forall_mem_cons.mpr ⟨mi_pc161, List.forall_mem_cons.mpr ⟨mi_pc162, List.forall_mem_cons.mpr ⟨mi_pc163, List.forall_mem_cons.mpr ⟨mi_pc164, List.forall_mem_cons.mpr ⟨mi_pc165, List.forall_mem_cons.mpr ⟨mi_pc166, List.forall_mem_cons.mpr ⟨mi_pc167, List.forall_mem_cons.mpr ⟨mi_pc168, List.forall_mem_cons.mpr ⟨mi_pc169, List.forall_mem_cons.mpr ⟨mi_pc170, List.forall_mem_cons.mpr ⟨mi_pc171, List.forall_mem_cons.mpr ⟨mi_pc172, List.forall_mem_cons.mpr ⟨mi_pc173, List.forall_mem_cons.mpr ⟨mi_pc174, List.forall_mem_cons.mpr ⟨mi_pc175, List.forall_mem_cons.mpr ⟨mi_pc176, List.forall_mem_cons.mpr ⟨mi_pc177, List.forall_mem_cons.mpr ⟨mi_pc178, List.forall_mem_cons.mpr ⟨mi_pc179, List.forall_mem_cons.mpr ⟨mi_pc180, List.forall_mem_cons.mpr ⟨mi_pc181, List.forall_mem_cons.mpr ⟨mi_pc182, List.forall_mem_cons.mpr ⟨mi_pc183, List.forall_mem_cons.mpr ⟨mi_pc184, List.forall_mem_cons.mpr ⟨mi_pc185, List.forall_mem_cons.mpr ⟨mi_pc186, List.forall_mem_cons.mpr ⟨mi_pc187, List.forall_mem_cons.mpr ⟨mi_pc188, List.forall_mem_cons.mpr ⟨mi_pc189, List.forall_mem_cons.mpr ⟨mi_pc190, List.forall_mem_cons.mpr ⟨mi_pc191, List.forall_mem_cons.mpr ⟨mi_pc192, List.forall_mem_cons.mpr ⟨mi_pc193, List.forall_mem_cons.mpr ⟨mi_pc194, List.forall_mem_cons.mpr ⟨mi_pc195, List.forall_mem_cons.mpr ⟨mi_pc196, List.forall_mem_cons.mpr ⟨mi_pc197, List.forall_mem_cons.mpr ⟨mi_pc198, List.forall_mem_cons.mpr ⟨mi_pc199, List.forall_mem_cons.mpr ⟨mi_pc200, List.forall_mem_cons.mpr ⟨mi_pc201, List.forall_mem_cons.mpr ⟨mi_pc202, List.forall_mem_cons.mpr ⟨mi_pc203, List.forall_mem_cons.mpr ⟨mi_pc204, List.forall_mem_cons.mpr ⟨mi_pc205, List.forall_mem_cons.mpr ⟨mi_pc206, List.forall_mem_cons.mpr ⟨mi_pc207, List.forall_mem_cons.mpr ⟨mi_pc208, List.forall_mem_cons.mpr ⟨mi_pc209, List.forall_mem_cons.mpr ⟨mi_pc210, List.forall_mem_cons.mpr ⟨mi_pc211, List.forall_mem_cons.mpr ⟨mi_pc212, List.forall_mem_cons.mpr ⟨mi_pc213, List.forall_mem_cons.mpr ⟨mi_pc214, List.forall_mem_cons.mpr ⟨mi_pc215, List.forall_mem_cons.mpr ⟨mi_pc216, List.forall_mem_cons.mpr ⟨mi_pc217, List.forall_mem_cons.mpr ⟨mi_pc218, List.forall_mem_cons.mpr ⟨mi_pc219, List.forall_mem_cons.mpr ⟨mi_pc220, List.forall_mem_cons.mpr ⟨mi_pc221, List.forall_mem_cons.mpr ⟨mi_pc222, List.forall_mem_cons.mpr ⟨mi_pc223, List.forall_mem_cons.mpr ⟨mi_pc224, List.forall_mem_cons.mpr ⟨mi_pc225, List.forall_mem_cons.mpr ⟨mi_pc226, List.forall_mem_cons.mpr ⟨mi_pc227, List.forall_mem_cons.mpr ⟨mi_pc228, List.forall_mem_cons.mpr ⟨mi_pc229, List.forall_mem_cons.mpr ⟨mi_pc230, List.forall_mem_cons.mpr ⟨mi_pc231, List.forall_mem_cons.mpr ⟨mi_pc232, List.forall_mem_cons.mpr ⟨mi_pc233, List.forall_mem_cons.mpr ⟨mi_pc234, List.forall_mem_cons.mpr ⟨mi_pc235, List.forall_mem_cons.mpr ⟨mi_pc236, List.forall_mem_cons.mpr ⟨mi_pc237, List.forall_mem_cons.mpr ⟨mi_pc238, List.forall_mem_cons.mpr ⟨mi_pc239, List.forall_mem_cons.mpr ⟨mi_pc240, List.forall_mem_cons.mpr ⟨mi_pc241, List.forall_mem_cons.mpr ⟨mi_pc242, List.forall_mem_cons.mpr ⟨mi_pc243, List.forall_mem_cons.mpr ⟨mi_pc244, List.forall_mem_cons.mpr ⟨mi_pc245, List.forall_mem_cons.mpr ⟨mi_pc246, List.forall_mem_cons.mpr ⟨mi_pc247, List.forall_mem_cons.mpr ⟨mi_pc248, List.forall_mem_cons.mpr ⟨mi_pc249, List.forall_mem_cons.mpr ⟨mi_pc250, List.forall_mem_cons.mpr ⟨mi_pc251, fun _ h => absurd h List.not_mem_nil⟩⟩⟩⟩⟩⟩⟩⟩⟩⟩⟩⟩⟩⟩⟩⟩⟩⟩⟩⟩⟩⟩⟩⟩⟩⟩⟩⟩⟩⟩⟩⟩⟩⟩⟩⟩⟩⟩⟩⟩⟩⟩⟩⟩⟩⟩⟩⟩⟩⟩⟩⟩⟩⟩⟩⟩⟩⟩⟩⟩⟩⟩⟩⟩⟩⟩⟩⟩⟩⟩⟩⟩⟩⟩⟩⟩⟩⟩⟩⟩⟩⟩⟩⟩⟩⟩⟩⟩⟩⟩⟩⟩⟩⟩⟩⟩⟩⟩⟩⟩⟩⟩⟩⟩⟩⟩⟩⟩⟩⟩⟩⟩⟩⟩⟩⟩⟩⟩⟩⟩⟩⟩⟩⟩⟩⟩⟩⟩⟩⟩⟩⟩⟩⟩⟩⟩⟩⟩⟩⟩⟩⟩⟩⟩⟩⟩⟩⟩⟩⟩⟩⟩⟩⟩⟩⟩⟩⟩⟩⟩⟩⟩⟩⟩⟩⟩⟩⟩⟩⟩⟩⟩⟩⟩⟩⟩⟩⟩⟩⟩⟩⟩⟩⟩⟩⟩⟩⟩⟩⟩⟩⟩⟩⟩⟩⟩⟩⟩⟩⟩⟩⟩⟩⟩⟩⟩⟩⟩⟩⟩⟩⟩⟩⟩⟩⟩⟩⟩⟩⟩⟩⟩⟩⟩⟩⟩⟩⟩⟩⟩⟩⟩⟩⟩⟩⟩⟩⟩⟩⟩⟩⟩⟩⟩⟩⟩⟩⟩⟩⟩⟩⟩
def mi_PF : Nat × Nat × Nat × Nat × Nat → Prop := fun e => match e with
  | (o, i, k, sl, p) => lw_tbl[p]? = some (Cond.fieldLink (mi_RX o) i (mi_T k sl).1 (mi_T k sl).2.1 (mi_T k sl).2.2.1) ∧ sl < mi_n k ∧ k < 13 ∧ (mi_T k sl).1 = mi_RX k ∧ k ≠ 3 ∧ k ≠ 6
set_option maxRecDepth 100000 in
theorem mi_pf0 : mi_PF (0, 14, 0, 0, 133) := ⟨rfl, by decide, by decide, rfl, by decide, by decide⟩
set_option maxRecDepth 100000 in
theorem mi_pf1 : mi_PF (10, 97, 0, 0, 134) := ⟨rfl, by decide, by decide, rfl, by decide, by decide⟩
set_option maxRecDepth 100000 in
theorem mi_pf2 : mi_PF (0, 20, 0, 1, 135) := ⟨rfl, by decide, by decide, rfl, by decide, by decide⟩
set_option maxRecDepth 100000 in
theorem mi_pf3 : mi_PF (10, 73, 0, 1, 136) := ⟨rfl, by decide, by decide, rfl, by decide, by decide⟩
set_option maxRecDepth 100000 in
theorem mi_pf4 : mi_PF (1, 75, 0, 1, 137) := ⟨rfl, by decide, by decide, rfl, by decide, by decide⟩
set_option maxRecDepth 100000 in
theorem mi_pf5 : mi_PF (0, 23, 0, 2, 138) := ⟨rfl, by decide, by decide, rfl, by decide, by decide⟩
set_option maxRecDepth 100000 in
theorem mi_pf6 : mi_PF (10, 70, 0, 2, 139) := ⟨rfl, by decide, by decide, rfl, by decide, by decide⟩
set_option maxRecDepth 100000 in
theorem mi_pf7 : mi_PF (0, 26, 0, 3, 140) := ⟨rfl, by decide, by decide, rfl, by decide, by decide⟩
set_option maxRecDepth 100000 in
theorem mi_pf8 : mi_PF (10, 94, 0, 3, 141) := ⟨rfl, by decide, by decide, rfl, by decide, by decide⟩
set_option maxRecDepth 100000 in
theorem mi_pf9 : mi_PF (0, 29, 0, 4, 142) := ⟨rfl, by decide, by decide, rfl, by decide, by decide⟩
set_option maxRecDepth 100000 in
theorem mi_pf10 : mi_PF (11, 232, 0, 4, 143) := ⟨rfl, by decide, by decide, rfl, by decide, by decide⟩
set_option maxRecDepth 100000 in
theorem mi_pf11 : mi_PF (0, 32, 0, 5, 144) := ⟨rfl, by decide, by decide, rfl, by decide, by decide⟩
set_option maxRecDepth 100000 in
theorem mi_pf12 : mi_PF (10, 47, 0, 5, 145) := ⟨rfl, by decide, by decide, rfl, by decide, by decide⟩
set_option maxRecDepth 100000 in
theorem mi_pf13 : mi_PF (1, 178, 0, 5, 146) := ⟨rfl, by decide, by decide, rfl, by decide, by decide⟩
set_option maxRecDepth 100000 in
theorem mi_pf14 : mi_PF (0, 38, 0, 6, 147) := ⟨rfl, by decide, by decide, rfl, by decide, by decide⟩
set_option maxRecDepth 100000 in
theorem mi_pf15 : mi_PF (10, 58, 0, 6, 148) := ⟨rfl, by decide, by decide, rfl, by decide, by decide⟩
set_option maxRecDepth 100000 in
theorem mi_pf16 : mi_PF (1, 116, 0, 6, 149) := ⟨rfl, by decide, by decide, rfl, by decide, by decide⟩
set_option maxRecDepth 100000 in
theorem mi_pf17 : mi_PF (11, 199, 0, 6, 150) := ⟨rfl, by decide, by decide, rfl, by decide, by decide⟩
set_option maxRecDepth 100000 in
theorem mi_pf18 : mi_PF (0, 42, 0, 7, 151) := ⟨rfl, by decide, by decide, rfl, by decide, by decide⟩
set_option maxRecDepth 100000 in
theorem mi_pf19 : mi_PF (0, 45, 0, 8, 152) := ⟨rfl, by decide, by decide, rfl, by decide, by decide⟩
set_option maxRecDepth 100000 in
theorem mi_pf20 : mi_PF (0, 48, 0, 9, 153) := ⟨rfl, by decide, by decide, rfl, by decide, by decide⟩
set_option maxRecDepth 100000 in
theorem mi_pf21 : mi_PF (1, 61, 0, 9, 154) := ⟨rfl, by decide, by decide, rfl, by decide, by decide⟩
set_option maxRecDepth 100000 in
theorem mi_pf22 : mi_PF (10, 44, 0, 9, 155) := ⟨rfl, by decide, by decide, rfl, by decide, by decide⟩
set_option maxRecDepth 100000 in
theorem mi_pf23 : mi_PF (11, 275, 0, 9, 156) := ⟨rfl, by decide, by decide, rfl, by decide, by decide⟩
set_option maxRecDepth 100000 in
theorem mi_pf24 : mi_PF (7, 14, 7, 0, 186) := ⟨rfl, by decide, by decide, rfl, by decide, by decide⟩
set_option maxRecDepth 100000 in
theorem mi_pf25 : mi_PF (7, 20, 7, 1, 187) := ⟨rfl, by decide, by decide, rfl, by decide, by decide⟩
set_option maxRecDepth 100000 in
theorem mi_pf26 : mi_PF (7, 23, 7, 2, 188) := ⟨rfl, by decide, by decide, rfl, by decide, by decide⟩
set_option maxRecDepth 100000 in
theorem mi_pf27 : mi_PF (1, 74, 7, 2, 189) := ⟨rfl, by decide, by decide, rfl, by decide, by decide⟩
set_option maxRecDepth 100000 in
theorem mi_pf28 : mi_PF (11, 276, 7, 2, 190) := ⟨rfl, by decide, by decide, rfl, by decide, by decide⟩
set_option maxRecDepth 100000 in
theorem mi_pf29 : mi_PF (7, 27, 7, 3, 191) := ⟨rfl, by decide, by decide, rfl, by decide, by decide⟩
set_option maxRecDepth 100000 in
theorem mi_pf30 : mi_PF (1, 99, 7, 3, 192) := ⟨rfl, by decide, by decide, rfl, by decide, by decide⟩
set_option maxRecDepth 100000 in
theorem mi_pf31 : mi_PF (11, 277, 7, 3, 193) := ⟨rfl, by decide, by decide, rfl, by decide, by decide⟩
set_option maxRecDepth 100000 in
theorem mi_pf32 : mi_PF (2, 14, 2, 0, 213) := ⟨rfl, by decide, by decide, rfl, by decide, by decide⟩
set_option maxRecDepth 100000 in
theorem mi_pf33 : mi_PF (2, 20, 2, 1, 214) := ⟨rfl, by decide, by decide, rfl, by decide, by decide⟩
set_option maxRecDepth 100000 in
theorem mi_pf34 : mi_PF (1, 154, 2, 1, 215) := ⟨rfl, by decide, by decide, rfl, by decide, by decide⟩
set_option maxRecDepth 100000 in
theorem mi_pf35 : mi_PF (2, 23, 2, 2, 216) := ⟨rfl, by decide, by decide, rfl, by decide, by decide⟩
set_option maxRecDepth 100000 in
theorem mi_pf36 : mi_PF (1, 140, 2, 2, 217) := ⟨rfl, by decide, by decide, rfl, by decide, by decide⟩
set_option maxRecDepth 100000 in
theorem mi_pf37 : mi_PF (2, 26, 2, 3, 218) := ⟨rfl, by decide, by decide, rfl, by decide, by decide⟩
set_option maxRecDepth 100000 in
theorem mi_pf38 : mi_PF (11, 219, 2, 3, 219) := ⟨rfl, by decide, by decide, rfl, by decide, by decide⟩
set_option maxRecDepth 100000 in
theorem mi_pf39 : mi_PF (2, 29, 2, 4, 220) := ⟨rfl, by decide, by decide, rfl, by decide, by decide⟩
set_option maxRecDepth 100000 in
theorem mi_pf40 : mi_PF (1, 143, 2, 4, 221) := ⟨rfl, by decide, by decide, rfl, by decide, by decide⟩
set_option maxRecDepth 100000 in
theorem mi_pf41 : mi_PF (2, 32, 2, 5, 222) := ⟨rfl, by decide, by decide, rfl, by decide, by decide⟩
set_option maxRecDepth 100000 in
theorem mi_pf42 : mi_PF (2, 35, 2, 6, 223) := ⟨rfl, by decide, by decide, rfl, by decide, by decide⟩
set_option maxRecDepth 100000 in
theorem mi_pf43 : mi_PF (2, 38, 2, 7, 224) := ⟨rfl, by decide, by decide, rfl, by decide, by decide⟩
set_option maxRecDepth 100000 in
theorem mi_pf44 : mi_PF (2, 44, 2, 8, 225) := ⟨rfl, by decide, by decide, rfl, by decide, by decide⟩
set_option maxRecDepth 100000 in
theorem mi_pf45 : mi_PF (2, 48, 2, 9, 226) := ⟨rfl, by decide, by decide, rfl, by decide, by decide⟩
set_option maxRecDepth 100000 in
theorem mi_pf46 : mi_PF (1, 113, 2, 9, 227) := ⟨rfl, by decide, by decide, rfl, by decide, by decide⟩
set_option maxRecDepth 100000 in
theorem mi_pf47 : mi_PF (11, 280, 2, 9, 228) := ⟨rfl, by decide, by decide, rfl, by decide, by decide⟩
set_option maxRecDepth 100000 in
theorem mi_pf48 : mi_PF (2, 52, 2, 10, 229) := ⟨rfl, by decide, by decide, rfl, by decide, by decide⟩
set_option maxRecDepth 100000 in
theorem mi_pf49 : mi_PF (1, 12, 1, 0, 255) := ⟨rfl, by decide, by decide, rfl, by decide, by decide⟩
set_option maxRecDepth 100000 in
theorem mi_pf50 : mi_PF (11, 53, 1, 0, 256) := ⟨rfl, by decide, by decide, rfl, by decide, by decide⟩
set_option maxRecDepth 100000 in
theorem mi_pf51 : mi_PF (8, 91, 1, 0, 257) := ⟨rfl, by decide, by decide, rfl, by decide, by decide⟩
set_option maxRecDepth 100000 in
theorem mi_pf52 : mi_PF (1, 21, 1, 1, 258) := ⟨rfl, by decide, by decide, rfl, by decide, by decide⟩
set_option maxRecDepth 100000 in
theorem mi_pf53 : mi_PF (11, 101, 1, 1, 259) := ⟨rfl, by decide, by decide, rfl, by decide, by decide⟩
set_option maxRecDepth 100000 in
theorem mi_pf54 : mi_PF (8, 112, 1, 1, 260) := ⟨rfl, by decide, by decide, rfl, by decide, by decide⟩
set_option maxRecDepth 100000 in
theorem mi_pf55 : mi_PF (1, 28, 1, 2, 261) := ⟨rfl, by decide, by decide, rfl, by decide, by decide⟩
set_option maxRecDepth 100000 in
theorem mi_pf56 : mi_PF (11, 211, 1, 2, 262) := ⟨rfl, by decide, by decide, rfl, by decide, by decide⟩
set_option maxRecDepth 100000 in
theorem mi_pf57 : mi_PF (1, 32, 1, 3, 263) := ⟨rfl, by decide, by decide, rfl, by decide, by decide⟩
set_option maxRecDepth 100000 in
theorem mi_pf58 : mi_PF (11, 281, 1, 3, 264) := ⟨rfl, by decide, by decide, rfl, by decide, by decide⟩
set_option maxRecDepth 100000 in
theorem mi_pf59 : mi_PF (1, 41, 1, 4, 265) := ⟨rfl, by decide, by decide, rfl, by decide, by decide⟩
set_option maxRecDepth 100000 in
theorem mi_pf60 : mi_PF (4, 14, 4, 0, 285) := ⟨rfl, by decide, by decide, rfl, by decide, by decide⟩
set_option maxRecDepth 100000 in
theorem mi_pf61 : mi_PF (8, 39, 4, 0, 286) := ⟨rfl, by decide, by decide, rfl, by decide, by decide⟩
set_option maxRecDepth 100000 in
theorem mi_pf62 : mi_PF (11, 180, 4, 0, 287) := ⟨rfl, by decide, by decide, rfl, by decide, by decide⟩
set_option maxRecDepth 100000 in
theorem mi_pf63 : mi_PF (4, 20, 4, 1, 288) := ⟨rfl, by decide, by decide, rfl, by decide, by decide⟩
set_option maxRecDepth 100000 in
theorem mi_pf64 : mi_PF (4, 27, 4, 2, 289) := ⟨rfl, by decide, by decide, rfl, by decide, by decide⟩
set_option maxRecDepth 100000 in
theorem mi_pf65 : mi_PF (4, 23, 4, 3, 290) := ⟨rfl, by decide, by decide, rfl, by decide, by decide⟩
set_option maxRecDepth 100000 in
theorem mi_pf66 : mi_PF (4, 36, 4, 4, 291) := ⟨rfl, by decide, by decide, rfl, by decide, by decide⟩
set_option maxRecDepth 100000 in
theorem mi_pf67 : mi_PF (11, 168, 4, 4, 292) := ⟨rfl, by decide, by decide, rfl, by decide, by decide⟩
set_option maxRecDepth 100000 in
theorem mi_pf68 : mi_PF (4, 54, 4, 5, 293) := ⟨rfl, by decide, by decide, rfl, by decide, by decide⟩
set_option maxRecDepth 100000 in
theorem mi_pf69 : mi_PF (11, 266, 4, 5, 294) := ⟨rfl, by decide, by decide, rfl, by decide, by decide⟩
set_option maxRecDepth 100000 in
theorem mi_pf70 : mi_PF (4, 49, 4, 6, 295) := ⟨rfl, by decide, by decide, rfl, by decide, by decide⟩
set_option maxRecDepth 100000 in
theorem mi_pf71 : mi_PF (11, 269, 4, 6, 296) := ⟨rfl, by decide, by decide, rfl, by decide, by decide⟩
set_option maxRecDepth 100000 in
theorem mi_pf72 : mi_PF (5, 12, 5, 0, 328) := ⟨rfl, by decide, by decide, rfl, by decide, by decide⟩
set_option maxRecDepth 100000 in
theorem mi_pf73 : mi_PF (2, 62, 5, 0, 329) := ⟨rfl, by decide, by decide, rfl, by decide, by decide⟩
set_option maxRecDepth 100000 in
theorem mi_pf74 : mi_PF (1, 114, 5, 0, 330) := ⟨rfl, by decide, by decide, rfl, by decide, by decide⟩
set_option maxRecDepth 100000 in
theorem mi_pf75 : mi_PF (11, 288, 5, 0, 331) := ⟨rfl, by decide, by decide, rfl, by decide, by decide⟩
set_option maxRecDepth 100000 in
theorem mi_pf76 : mi_PF (5, 21, 5, 1, 332) := ⟨rfl, by decide, by decide, rfl, by decide, by decide⟩
set_option maxRecDepth 100000 in
theorem mi_pf77 : mi_PF (2, 69, 5, 1, 333) := ⟨rfl, by decide, by decide, rfl, by decide, by decide⟩
set_option maxRecDepth 100000 in
theorem mi_pf78 : mi_PF (1, 122, 5, 1, 334) := ⟨rfl, by decide, by decide, rfl, by decide, by decide⟩
set_option maxRecDepth 100000 in
theorem mi_pf79 : mi_PF (11, 290, 5, 1, 335) := ⟨rfl, by decide, by decide, rfl, by decide, by decide⟩
set_option maxRecDepth 100000 in
theorem mi_pf80 : mi_PF (5, 25, 5, 2, 336) := ⟨rfl, by decide, by decide, rfl, by decide, by decide⟩
set_option maxRecDepth 100000 in
theorem mi_pf81 : mi_PF (2, 59, 5, 2, 337) := ⟨rfl, by decide, by decide, rfl, by decide, by decide⟩
set_option maxRecDepth 100000 in
theorem mi_pf82 : mi_PF (11, 119, 5, 2, 338) := ⟨rfl, by decide, by decide, rfl, by decide, by decide⟩
set_option maxRecDepth 100000 in
theorem mi_pf83 : mi_PF (1, 89, 5, 2, 339) := ⟨rfl, by decide, by decide, rfl, by decide, by decide⟩
set_option maxRecDepth 100000 in
theorem mi_pf84 : mi_PF (8, 20, 8, 0, 347) := ⟨rfl, by decide, by decide, rfl, by decide, by decide⟩
set_option maxRecDepth 100000 in
theorem mi_pf85 : mi_PF (8, 24, 8, 1, 348) := ⟨rfl, by decide, by decide, rfl, by decide, by decide⟩
set_option maxRecDepth 100000 in
theorem mi_pf86 : mi_PF (8, 14, 8, 2, 349) := ⟨rfl, by decide, by decide, rfl, by decide, by decide⟩
set_option maxRecDepth 100000 in
theorem mi_pf87 : mi_PF (8, 28, 8, 3, 350) := ⟨rfl, by decide, by decide, rfl, by decide, by decide⟩
set_option maxRecDepth 100000 in
theorem mi_pf88 : mi_PF (8, 32, 8, 4, 351) := ⟨rfl, by decide, by decide, rfl, by decide, by decide⟩
set_option maxRecDepth 100000 in
theorem mi_pf89 : mi_PF (8, 35, 8, 5, 352) := ⟨rfl, by decide, by decide, rfl, by decide, by decide⟩
set_option maxRecDepth 100000 in
theorem mi_pf90 : mi_PF (9, 14, 9, 0, 378) := ⟨rfl, by decide, by decide, rfl, by decide, by decide⟩
set_option maxRecDepth 100000 in
theorem mi_pf91 : mi_PF (11, 258, 9, 0, 379) := ⟨rfl, by decide, by decide, rfl, by decide, by decide⟩
set_option maxRecDepth 100000 in
theorem mi_pf92 : mi_PF (9, 23, 9, 1, 380) := ⟨rfl, by decide, by decide, rfl, by decide, by decide⟩
set_option maxRecDepth 100000 in
theorem mi_pf93 : mi_PF (9, 27, 9, 2, 381) := ⟨rfl, by decide, by decide, rfl, by decide, by decide⟩
set_option maxRecDepth 100000 in
theorem mi_pf94 : mi_PF (9, 30, 9, 3, 382) := ⟨rfl, by decide, by decide, rfl, by decide, by decide⟩
set_option maxRecDepth 100000 in
theorem mi_pf95 : mi_PF (10, 14, 10, 0, 400) := ⟨rfl, by decide, by decide, rfl, by decide, by decide⟩
set_option maxRecDepth 100000 in
theorem mi_pf96 : mi_PF (11, 241, 10, 0, 401) := ⟨rfl, by decide, by decide, rfl, by decide, by decide⟩
set_option maxRecDepth 100000 in
theorem mi_pf97 : mi_PF (10, 23, 10, 1, 402) := ⟨rfl, by decide, by decide, rfl, by decide, by decide⟩
set_option maxRecDepth 100000 in
theorem mi_pf98 : mi_PF (10, 20, 10, 2, 403) := ⟨rfl, by decide, by decide, rfl, by decide, by decide⟩
set_option maxRecDepth 100000 in
theorem mi_pf99 : mi_PF (10, 27, 10, 3, 404) := ⟨rfl, by decide, by decide, rfl, by decide, by decide⟩
set_option maxRecDepth 100000 in
theorem mi_pf100 : mi_PF (11, 240, 10, 3, 405) := ⟨rfl, by decide, by decide, rfl, by decide, by decide⟩
set_option maxRecDepth 100000 in
theorem mi_pf101 : mi_PF (11, 10, 11, 0, 415) := ⟨rfl, by decide, by decide, rfl, by decide, by decide⟩
set_option maxRecDepth 100000 in
theorem mi_pf102 : mi_PF (11, 19, 11, 1, 416) := ⟨rfl, by decide, by decide, rfl, by decide, by decide⟩
set_option maxRecDepth 100000 in
theorem mi_pf103 : mi_PF (11, 28, 11, 2, 417) := ⟨rfl, by decide, by decide, rfl, by decide, by decide⟩
set_option maxRecDepth 100000 in
theorem mi_pf104 : mi_PF (11, 37, 11, 3, 418) := ⟨rfl, by decide, by decide, rfl, by decide, by decide⟩
set_option maxRecDepth 100000 in
theorem mi_pf105 : mi_PF (11, 41, 11, 4, 419) := ⟨rfl, by decide, by decide, rfl, by decide, by decide⟩
set_option maxRecDepth 100000 in
theorem mi_pf106 : mi_PF (11, 47, 11, 5, 420) := ⟨rfl, by decide, by decide, rfl, by decide, by decide⟩
set_option maxRecDepth 100000 in
theorem mi_pf107 : mi_PF (11, 60, 11, 6, 421) := ⟨rfl, by decide, by decide, rfl, by decide, by decide⟩
set_option maxRecDepth 100000 in
theorem mi_pf108 : mi_PF (11, 64, 11, 7, 422) := ⟨rfl, by decide, by decide, rfl, by decide, by decide⟩
set_option maxRecDepth 100000 in
theorem mi_pf109 : mi_PF (12, 7, 12, 0, 1095) := ⟨rfl, by decide, by decide, rfl, by decide, by decide⟩
set_option maxRecDepth 100000 in
theorem mi_pf110 : mi_PF (12, 129, 12, 1, 1096) := ⟨rfl, by decide, by decide, rfl, by decide, by decide⟩
set_option maxRecDepth 100000 in
theorem mi_pf111 : mi_PF (12, 113, 12, 2, 1097) := ⟨rfl, by decide, by decide, rfl, by decide, by decide⟩
set_option maxRecDepth 100000 in
theorem mi_pf112 : mi_PF (12, 13, 12, 3, 1098) := ⟨rfl, by decide, by decide, rfl, by decide, by decide⟩
set_option maxRecDepth 100000 in
theorem mi_pf113 : mi_PF (12, 17, 12, 4, 1099) := ⟨rfl, by decide, by decide, rfl, by decide, by decide⟩
set_option maxRecDepth 100000 in
theorem mi_pf114 : mi_PF (12, 20, 12, 5, 1100) := ⟨rfl, by decide, by decide, rfl, by decide, by decide⟩
set_option maxRecDepth 100000 in
theorem mi_pf115 : mi_PF (12, 23, 12, 6, 1101) := ⟨rfl, by decide, by decide, rfl, by decide, by decide⟩
set_option maxRecDepth 100000 in
theorem mi_pf116 : mi_PF (12, 27, 12, 7, 1102) := ⟨rfl, by decide, by decide, rfl, by decide, by decide⟩
set_option maxRecDepth 100000 in
theorem mi_pf117 : mi_PF (12, 30, 12, 8, 1103) := ⟨rfl, by decide, by decide, rfl, by decide, by decide⟩
set_option maxRecDepth 100000 in
theorem mi_pf118 : mi_PF (12, 33, 12, 9, 1104) := ⟨rfl, by decide, by decide, rfl, by decide, by decide⟩
set_option maxRecDepth 100000 in
theorem mi_pf119 : mi_PF (12, 37, 12, 10, 1105) := ⟨rfl, by decide, by decide, rfl, by decide, by decide⟩
set_option maxRecDepth 100000 in
theorem mi_pf120 : mi_PF (12, 173, 12, 11, 1106) := ⟨rfl, by decide, by decide, rfl, by decide, by decide⟩
set_option maxRecDepth 100000 in
theorem mi_pf121 : mi_PF (12, 197, 12, 12, 1107) := ⟨rfl, by decide, by decide, rfl, by decide, by decide⟩
set_option maxRecDepth 100000 in
theorem mi_pf122 : mi_PF (12, 41, 12, 13, 1108) := ⟨rfl, by decide, by decide, rfl, by decide, by decide⟩
set_option maxRecDepth 100000 in
theorem mi_pf123 : mi_PF (12, 44, 12, 14, 1109) := ⟨rfl, by decide, by decide, rfl, by decide, by decide⟩
set_option maxRecDepth 100000 in
theorem mi_pf124 : mi_PF (12, 203, 12, 15, 1110) := ⟨rfl, by decide, by decide, rfl, by decide, by decide⟩
set_option maxRecDepth 100000 in
theorem mi_pf125 : mi_PF (12, 47, 12, 16, 1111) := ⟨rfl, by decide, by decide, rfl, by decide, by decide⟩
set_option maxRecDepth 100000 in
theorem mi_pf126 : mi_PF (12, 50, 12, 17, 1112) := ⟨rfl, by decide, by decide, rfl, by decide, by decide⟩
set_option maxRecDepth 100000 in
theorem mi_pf127 : mi_PF (12, 53, 12, 18, 1113) := ⟨rfl, by decide, by decide, rfl, by decide, by decide⟩
set_option maxRecDepth 100000 in
theorem mi_pf128 : mi_PF (12, 56, 12, 19, 1114) := ⟨rfl, by decide, by decide, rfl, by decide, by decide⟩
set_option maxRecDepth 100000 in
theorem mi_pf129 : mi_PF (12, 59, 12, 20, 1115) := ⟨rfl, by decide, by decide, rfl, by decide, by decide⟩
set_option maxRecDepth 100000 in
theorem mi_pf130 : mi_PF (12, 62, 12, 21, 1116) := ⟨rfl, by decide, by decide, rfl, by decide, by decide⟩
set_option maxRecDepth 100000 in
theorem mi_pf131 : mi_PF (12, 65, 12, 22, 1117) := ⟨rfl, by decide, by decide, rfl, by decide, by decide⟩
set_option maxRecDepth 100000 in
theorem mi_pf132 : mi_PF (12, 68, 12, 23, 1118) := ⟨rfl, by decide, by decide, rfl, by decide, by decide⟩
set_option maxRecDepth 100000 in
theorem mi_pf133 : mi_PF (12, 184, 12, 24, 1119) := ⟨rfl, by decide, by decide, rfl, by decide, by decide⟩
set_option maxRecDepth 100000 in
theorem mi_pf134 : mi_PF (12, 71, 12, 25, 1120) := ⟨rfl, by decide, by decide, rfl, by decide, by decide⟩
set_option maxRecDepth 100000 in
theorem mi_pf135 : mi_PF (12, 74, 12, 26, 1121) := ⟨rfl, by decide, by decide, rfl, by decide, by decide⟩
set_option maxRecDepth 100000 in
theorem mi_pf136 : mi_PF (12, 187, 12, 27, 1122) := ⟨rfl, by decide, by decide, rfl, by decide, by decide⟩
set_option maxRecDepth 100000 in
theorem mi_pf137 : mi_PF (12, 77, 12, 28, 1123) := ⟨rfl, by decide, by decide, rfl, by decide, by decide⟩
set_option maxRecDepth 100000 in
theorem mi_pf138 : mi_PF (12, 80, 12, 29, 1124) := ⟨rfl, by decide, by decide, rfl, by decide, by decide⟩
set_option maxRecDepth 100000 in
theorem mi_pf139 : mi_PF (12, 132, 12, 30, 1125) := ⟨rfl, by decide, by decide, rfl, by decide, by decide⟩
set_option maxRecDepth 100000 in
theorem mi_pf140 : mi_PF (12, 248, 12, 31, 1126) := ⟨rfl, by decide, by decide, rfl, by decide, by decide⟩
set_option maxRecDepth 100000 in
theorem mi_pf141 : mi_PF (12, 137, 12, 32, 1127) := ⟨rfl, by decide, by decide, rfl, by decide, by decide⟩
set_option maxRecDepth 100000 in
theorem mi_pf142 : mi_PF (12, 83, 12, 33, 1128) := ⟨rfl, by decide, by decide, rfl, by decide, by decide⟩
set_option maxRecDepth 100000 in
theorem mi_pf143 : mi_PF (12, 120, 12, 34, 1129) := ⟨rfl, by decide, by decide, rfl, by decide, by decide⟩
set_option maxRecDepth 100000 in
theorem mi_pf144 : mi_PF (12, 86, 12, 35, 1130) := ⟨rfl, by decide, by decide, rfl, by decide, by decide⟩
set_option maxRecDepth 100000 in
theorem mi_pf145 : mi_PF (12, 253, 12, 36, 1131) := ⟨rfl, by decide, by decide, rfl, by decide, by decide⟩
set_option maxRecDepth 100000 in
theorem mi_pf146 : mi_PF (12, 89, 12, 37, 1132) := ⟨rfl, by decide, by decide, rfl, by decide, by decide⟩
set_option maxRecDepth 100000 in
theorem mi_pf147 : mi_PF (12, 92, 12, 38, 1133) := ⟨rfl, by decide, by decide, rfl, by decide, by decide⟩
set_option maxRecDepth 100000 in
theorem mi_pf148 : mi_PF (12, 95, 12, 39, 1134) := ⟨rfl, by decide, by decide, rfl, by decide, by decide⟩
set_option maxRecDepth 100000 in
theorem mi_pf149 : mi_PF (12, 98, 12, 40, 1135) := ⟨rfl, by decide, by decide, rfl, by decide, by decide⟩
set_option maxRecDepth 100000 in
theorem mi_pf150 : mi_PF (12, 234, 12, 41, 1136) := ⟨rfl, by decide, by decide, rfl, by decide, by decide⟩
set_option maxRecDepth 100000 in
theorem mi_pf151 : mi_PF (12, 101, 12, 42, 1137) := ⟨rfl, by decide, by decide, rfl, by decide, by decide⟩
set_option maxRecDepth 100000 in
theorem mi_pf152 : mi_PF (12, 104, 12, 43, 1138) := ⟨rfl, by decide, by decide, rfl, by decide, by decide⟩
set_option maxRecDepth 100000 in
theorem mi_pf153 : mi_PF (12, 107, 12, 44, 1139) := ⟨rfl, by decide, by decide, rfl, by decide, by decide⟩
set_option maxRecDepth 100000 in
theorem mi_pf154 : mi_PF (12, 110, 12, 45, 1140) := ⟨rfl, by decide, by decide, rfl, by decide, by decide⟩
set_option maxRecDepth 100000 in
theorem mi_pf155 : mi_PF (12, 259, 12, 46, 1141) := ⟨rfl, by decide, by decide, rfl, by decide, by decide⟩
set_option maxRecDepth 100000 in
theorem mi_pf156 : mi_PF (12, 262, 12, 47, 1142) := ⟨rfl, by decide, by decide, rfl, by decide, by decide⟩
set_option maxRecDepth 100000 in
theorem mi_pf157 : mi_PF (12, 256, 12, 48, 1143) := ⟨rfl, by decide, by decide, rfl, by decide, by decide⟩
set_option maxRecDepth 100000 in
theorem mi_tF_ok : ∀ e ∈ mi_tF, mi_PF e := List.forall_mem_cons.mpr ⟨mi_pf0, List.forall_mem_cons.mpr ⟨mi_pf1, List.forall_mem_cons.mpr ⟨mi_pf2, List.forall_mem_cons.mpr ⟨mi_pf3, List.forall_mem_cons.mpr ⟨mi_pf4, List.forall_mem_cons.mpr ⟨mi_pf5, List.forall_mem_cons.mpr ⟨mi_pf6, List.forall_mem_cons.mpr ⟨mi_pf7, List.forall_mem_cons.mpr ⟨mi_pf8, List.forall_mem_cons.mpr ⟨mi_pf9, List.forall_mem_cons.mpr ⟨mi_pf10, List.forall_mem_cons.mpr ⟨mi_pf11, List.forall_mem_cons.mpr ⟨mi_pf12, List.forall_mem_cons.mpr ⟨mi_pf13, List.forall_mem_cons.mpr ⟨mi_pf14, List.forall_mem_cons.mpr ⟨mi_pf15, List.forall_mem_cons.mpr ⟨mi_pf16, List.forall_mem_cons.mpr ⟨mi_pf17, List.forall_mem_cons.mpr ⟨mi_pf18, List.forall_mem_cons.mpr ⟨mi_pf19, List.forall_mem_cons.mpr ⟨mi_pf20, List.forall_mem_cons.mpr ⟨mi_pf21, List.forall_mem_cons.mpr ⟨mi_pf22, List.forall_mem_cons.mpr ⟨mi_pf23, List.forall_mem_cons.mpr ⟨mi_pf24, List.forall_mem_cons.mpr ⟨mi_pf25, List.forall_mem_cons.mpr ⟨mi_pf26, List.forall_mem_cons.mpr ⟨mi_pf27, List.forall_mem_cons.mpr ⟨mi_pf28, List.forall_mem_cons.mpr ⟨mi_pf29, List.forall_mem_cons.mpr ⟨mi_pf30, List.forall_mem_cons.mpr ⟨mi_pf31, List.forall_mem_cons.mpr ⟨mi_pf32, List.forall_mem_cons.mpr ⟨mi_pf33, List.forall_mem_cons.mpr ⟨mi_pf34, List.forall_mem_cons.mpr ⟨mi_pf35, List.forall_mem_cons.mpr ⟨mi_pf36, List.forall_mem_cons.mpr ⟨mi_pf37, List.forall_mem_cons.mpr ⟨mi_pf38, List.forall_mem_cons.mpr ⟨mi_pf39, List.forall_mem_cons.mpr ⟨mi_pf40, List.forall_mem_cons.mpr ⟨mi_pf41, List.forall_mem_cons.mpr ⟨mi_pf42, List.forall_mem_cons.mpr ⟨mi_pf43, List.forall_mem_cons.mpr ⟨mi_pf44, List.forall_mem_cons.mpr ⟨mi_pf45, List.forall_mem_cons.mpr ⟨mi_pf46, List.forall_mem_cons.mpr ⟨mi_pf47, List.forall_mem_cons.mpr ⟨mi_pf48, List.forall_mem_cons.mpr ⟨mi_pf49, List.forall_mem_cons.mpr ⟨mi_pf50, List.forall_mem_cons.mpr ⟨mi_pf51, List.forall_mem_cons.mpr ⟨mi_pf52, List.forall_mem_cons.mpr ⟨mi_pf53, List.forall_mem_cons.mpr ⟨mi_pf54, List.forall_mem_cons.mpr ⟨mi_pf55, List.forall_mem_cons.mpr ⟨mi_pf56, List.forall_mem_cons.mpr ⟨mi_pf57, List.forall_mem_cons.mpr ⟨mi_pf58, List.forall_mem_cons.mpr ⟨mi_pf59, List.forall_mem_cons.mpr ⟨mi_pf60, List.forall_mem_cons.mpr ⟨mi_pf61, List.forall_mem_cons.mpr ⟨mi_pf62, List.forall_mem_cons.mpr ⟨mi_pf63, List.forall_mem_cons.mpr ⟨mi_pf64, List.forall_mem_cons.mpr ⟨mi_pf65, List.forall_mem_cons.mpr ⟨mi_pf66, List.forall_mem_cons.mpr ⟨mi_pf67, List.forall_mem_cons.mpr ⟨mi_pf68, List.forall_mem_cons.mpr ⟨mi_pf69, List.forall_mem_cons.mpr ⟨mi_pf70, List.forall_mem_cons.mpr ⟨mi_pf71, List.forall_mem_cons.mpr ⟨mi_pf72, List.forall_mem_cons.mpr ⟨mi_pf73, List.forall_mem_cons.mpr ⟨mi_pf74, List.forall_mem_cons.mpr ⟨mi_pf75, List.forall_mem_cons.mpr ⟨mi_pf76, List.forall_mem_cons.mpr ⟨mi_pf77, List.forall_mem_cons.mpr ⟨mi_pf78, List.forall_mem_cons.mpr ⟨mi_pf79, List.forall_mem_cons.mpr ⟨mi_pf80, List.forall_mem_cons.mpr ⟨mi_pf81, List.forall_mem_cons.mpr ⟨mi_pf82, List.forall_mem_cons.mpr ⟨mi_pf83, List.forall_mem_cons.mpr ⟨mi_pf84, List.forall_mem_cons.mpr ⟨mi_pf85, List.forall_mem_cons.mpr ⟨mi_pf86, List.forall_mem_cons.mpr ⟨mi_pf87, List.forall_mem_cons.mpr ⟨mi_pf88, List.forall_mem_cons.mpr ⟨mi_pf89, List.forall_mem_cons.mpr ⟨mi_pf90, List.forall_mem_cons.mpr ⟨mi_pf91, List.forall_mem_cons.mpr ⟨mi_pf92, List.forall_mem_cons.mpr ⟨mi_pf93, List.forall_mem_cons.mpr ⟨mi_pf94, List.forall_mem_cons.mpr ⟨mi_pf95, List.forall_mem_cons.mpr ⟨mi_pf96, List.forall_mem_cons.mpr ⟨mi_pf97, List.forall_mem_cons.mpr ⟨mi_pf98, List.forall_mem_cons.mpr ⟨mi_pf99, List.forall_mem_cons.mpr ⟨mi_pf100, List.forall_mem_cons.mpr ⟨mi_pf101, List.forall_mem_cons.mpr ⟨mi_pf102, List.forall_mem_cons.mpr ⟨mi_pf103, List.forall_mem_cons.mpr ⟨mi_pf104, List.forall_mem_cons.mpr ⟨mi_pf105, List.forall_mem_cons.mpr ⟨mi_pf106, List.forall_mem_cons.mpr ⟨mi_pf107, List.forall_mem_cons.mpr ⟨mi_pf108, List.forall_mem_cons.mpr ⟨mi_pf109, List.forall_mem_cons.mpr ⟨mi_pf110, List.forall_mem_cons.mpr ⟨mi_pf111, List.forall_mem_cons.mpr ⟨mi_pf112, List.forall_mem_cons.mpr ⟨mi_pf113, List.forall_mem_cons.mpr ⟨mi_pf114, List.forall_mem_cons.mpr ⟨mi_pf115, List.forall_mem_cons.mpr ⟨mi_pf116, List.forall_mem_cons.mpr ⟨mi_pf117, List.forall_mem_cons.mpr ⟨mi_pf118, List.forall_mem_cons.mpr ⟨mi_pf119, List.forall_mem_cons.mpr ⟨mi_pf120, List.forall_mem_cons.mpr ⟨mi_pf121, List.forall_mem_cons.mpr ⟨mi_pf122, List.forall_mem_cons.mpr ⟨mi_pf123, List.forall_mem_cons.mpr ⟨mi_pf124, List.forall_mem_cons.mpr ⟨mi_pf125, List.forall_mem_cons.mpr ⟨mi_pf126, List.forall_mem_cons.mpr ⟨mi_pf127, List.forall_mem_cons.mpr ⟨mi_pf128, List.forall_mem_cons.mpr ⟨mi_pf129, List.forall_mem_cons.mpr ⟨mi_pf130, List.forall_mem_cons.mpr ⟨mi_pf131, List.forall_mem_cons.mpr ⟨mi_pf132, List.forall_mem_cons.mpr ⟨mi_pf133, List.forall_mem_cons.mpr ⟨mi_pf134, List.forall_mem_cons.mpr ⟨mi_pf135, List.forall_mem_cons.mpr ⟨mi_pf136, List.forall_mem_cons.mpr ⟨mi_pf137, List.forall_mem_cons.mpr ⟨mi_pf138, List.forall_mem_cons.mpr ⟨mi_pf139, List.forall_mem_cons.mpr ⟨mi_pf140, List.forall_mem_cons.mpr ⟨mi_pf141, List.forall_mem_cons.mpr ⟨mi_pf142, List.forall_mem_cons.mpr ⟨mi_pf143, List.forall_mem_cons.mpr ⟨mi_pf144, List.forall_mem_cons.mpr ⟨mi_pf145, List.forall_mem_cons.mpr ⟨mi_pf146, List.forall_mem_cons.mpr ⟨mi_pf147, List.forall_mem_cons.mpr ⟨mi_pf148, List.forall_mem_cons.mpr ⟨mi_pf149, List.forall_mem_cons.mpr ⟨mi_pf150, List.forall_mem_cons.mpr ⟨mi_pf151, List.forall_mem_cons.mpr ⟨mi_pf152, List.forall_mem_cons.mpr ⟨mi_pf153, List.forall_mem_cons.mpr ⟨mi_pf154, List.forall_mem_cons.mpr ⟨mi_pf155, List.forall_mem_cons.mpr ⟨mi_pf156, List.forall_mem_cons.mpr ⟨mi_pf157, fun _ h => absurd h List.not_mem_nil⟩⟩⟩⟩⟩⟩⟩⟩⟩⟩⟩⟩⟩⟩⟩⟩⟩⟩⟩⟩⟩⟩⟩⟩⟩⟩⟩⟩⟩⟩⟩⟩⟩⟩⟩⟩⟩⟩⟩⟩⟩⟩⟩⟩⟩⟩⟩⟩⟩⟩⟩⟩⟩⟩⟩⟩⟩⟩⟩⟩⟩⟩⟩⟩⟩⟩⟩⟩⟩⟩⟩⟩⟩⟩⟩⟩⟩⟩⟩⟩⟩⟩⟩⟩⟩⟩⟩⟩⟩⟩⟩⟩⟩⟩⟩⟩⟩⟩⟩⟩⟩⟩⟩⟩⟩⟩⟩⟩⟩⟩⟩⟩⟩⟩⟩⟩⟩⟩⟩⟩⟩⟩⟩⟩⟩⟩⟩⟩⟩⟩⟩⟩⟩⟩⟩⟩⟩⟩⟩⟩⟩⟩⟩⟩⟩⟩⟩⟩⟩⟩⟩⟩⟩⟩⟩⟩⟩⟩
def mi_PW : Nat × Nat × Nat × Nat × Nat × Nat → Prop := fun e => match e with
  | (o, i, k, p1, p2, p3) => lw_tbl[p1]? = some (Cond.classLink (mi_RX o) i (mi_RX k)) ∧ lw_tbl[p2]? = some (Cond.instantiable (mi_RX k) (mi_n k)) ∧ lw_tbl[p3]? = some (Cond.initialized (mi_RX k)) ∧ k < 13
set_option maxRecDepth 100000 in
theorem mi_pw0 : mi_PW (13, 7, 11, 85, 86, 69) := ⟨rfl, rfl, rfl, by decide⟩
set_option maxRecDepth 100000 in
theorem mi_pw1 : mi_PW (11, 7, 1, 93, 94, 70) := ⟨rfl, rfl, rfl, by decide⟩
set_option maxRecDepth 100000 in
theorem mi_pw2 : mi_PW (1, 9, 0, 99, 100, 71) := ⟨rfl, rfl, rfl, by decide⟩
set_option maxRecDepth 100000 in
theorem mi_pw3 : mi_PW (0, 9, 3, 105, 106, 72) := ⟨rfl, rfl, rfl, by decide⟩
set_option maxRecDepth 100000 in
theorem mi_pw4 : mi_PW (0, 35, 6, 119, 120, 73) := ⟨rfl, rfl, rfl, by decide⟩
set_option maxRecDepth 100000 in
theorem mi_pw5 : mi_PW (1, 18, 7, 178, 179, 74) := ⟨rfl, rfl, rfl, by decide⟩
set_option maxRecDepth 100000 in
theorem mi_pw6 : mi_PW (7, 9, 3, 184, 106, 72) := ⟨rfl, rfl, rfl, by decide⟩
set_option maxRecDepth 100000 in
theorem mi_pw7 : mi_PW (1, 25, 2, 203, 204, 75) := ⟨rfl, rfl, rfl, by decide⟩
set_option maxRecDepth 100000 in
theorem mi_pw8 : mi_PW (2, 9, 3, 209, 106, 72) := ⟨rfl, rfl, rfl, by decide⟩
set_option maxRecDepth 100000 in
theorem mi_pw9 : mi_PW (2, 41, 6, 211, 120, 73) := ⟨rfl, rfl, rfl, by decide⟩
set_option maxRecDepth 100000 in
theorem mi_pw10 : mi_PW (1, 36, 6, 253, 120, 73) := ⟨rfl, rfl, rfl, by decide⟩
set_option maxRecDepth 100000 in
theorem mi_pw11 : mi_PW (11, 16, 4, 277, 278, 76) := ⟨rfl, rfl, rfl, by decide⟩
set_option maxRecDepth 100000 in
theorem mi_pw12 : mi_PW (4, 9, 3, 283, 106, 72) := ⟨rfl, rfl, rfl, by decide⟩
set_option maxRecDepth 100000 in
theorem mi_pw13 : mi_PW (11, 23, 8, 312, 313, 77) := ⟨rfl, rfl, rfl, by decide⟩
set_option maxRecDepth 100000 in
theorem mi_pw14 : mi_PW (8, 9, 5, 318, 319, 78) := ⟨rfl, rfl, rfl, by decide⟩
set_option maxRecDepth 100000 in
theorem mi_pw15 : mi_PW (5, 7, 3, 324, 106, 72) := ⟨rfl, rfl, rfl, by decide⟩
set_option maxRecDepth 100000 in
theorem mi_pw16 : mi_PW (5, 18, 6, 326, 120, 73) := ⟨rfl, rfl, rfl, by decide⟩
set_option maxRecDepth 100000 in
theorem mi_pw17 : mi_PW (11, 32, 5, 366, 319, 78) := ⟨rfl, rfl, rfl, by decide⟩
set_option maxRecDepth 100000 in
theorem mi_pw18 : mi_PW (11, 44, 9, 368, 369, 79) := ⟨rfl, rfl, rfl, by decide⟩
set_option maxRecDepth 100000 in
theorem mi_pw19 : mi_PW (9, 9, 6, 374, 120, 73) := ⟨rfl, rfl, rfl, by decide⟩
set_option maxRecDepth 100000 in
theorem mi_pw20 : mi_PW (9, 20, 3, 376, 106, 72) := ⟨rfl, rfl, rfl, by decide⟩
set_option maxRecDepth 100000 in
theorem mi_pw21 : mi_PW (11, 51, 10, 392, 393, 80) := ⟨rfl, rfl, rfl, by decide⟩
set_option maxRecDepth 100000 in
theorem mi_pw22 : mi_PW (10, 9, 3, 398, 106, 72) := ⟨rfl, rfl, rfl, by decide⟩
set_option maxRecDepth 100000 in
theorem mi_pw23 : mi_PW (13, 10, 12, 1089, 1090, 81) := ⟨rfl, rfl, rfl, by decide⟩
theorem mi_tW_ok : ∀ e ∈ mi_tW, mi_PW e := List.forall_mem_cons.mpr ⟨mi_pw0, List.forall_mem_cons.mpr ⟨mi_pw1, List.forall_mem_cons.mpr ⟨mi_pw2, List.forall_mem_cons.mpr ⟨mi_pw3, List.forall_mem_cons.mpr ⟨mi_pw4, List.forall_mem_cons.mpr ⟨mi_pw5, List.forall_mem_cons.mpr ⟨mi_pw6, List.forall_mem_cons.mpr ⟨mi_pw7, List.forall_mem_cons.mpr ⟨mi_pw8, List.forall_mem_cons.mpr ⟨mi_pw9, List.forall_mem_cons.mpr ⟨mi_pw10, List.forall_mem_cons.mpr ⟨mi_pw11, List.forall_mem_cons.mpr ⟨mi_pw12, List.forall_mem_cons.mpr ⟨mi_pw13, List.forall_mem_cons.mpr ⟨mi_pw14, List.forall_mem_cons.mpr ⟨mi_pw15, List.forall_mem_cons.mpr ⟨mi_pw16, List.forall_mem_cons.mpr ⟨mi_pw17, List.forall_mem_cons.mpr ⟨mi_pw18, List.forall_mem_cons.mpr ⟨mi_pw19, List.forall_mem_cons.mpr ⟨mi_pw20, List.forall_mem_cons.mpr ⟨mi_pw21, List.forall_mem_cons.mpr ⟨mi_pw22, List.forall_mem_cons.mpr ⟨mi_pw23, fun _ h => absurd h List.not_mem_nil⟩⟩⟩⟩⟩⟩⟩⟩⟩⟩⟩⟩⟩⟩⟩⟩⟩⟩⟩⟩⟩⟩⟩⟩
def mi_PKL : Nat × Nat × Int64 × Nat → Prop := fun e => lw_tbl[e.2.2.2]? = some (Cond.constantLong (mi_RX e.1) e.2.1 e.2.2.1)
set_option maxRecDepth 100000 in
theorem mi_pkl0 : mi_PKL (4, 30, 127, 472) := rfl
set_option maxRecDepth 100000 in
theorem mi_pkl1 : mi_PKL (11, 242, 1000000000000000, 602) := rfl
set_option maxRecDepth 100000 in
theorem mi_pkl2 : mi_PKL (1, 125, 10000000000000000, 657) := rfl
set_option maxRecDepth 100000 in
theorem mi_pkl3 : mi_PKL (11, 304, 1000, 786) := rfl
set_option maxRecDepth 100000 in
theorem mi_pkl4 : mi_PKL (9, 58, -1, 815) := rfl
set_option maxRecDepth 100000 in
theorem mi_pkl5 : mi_PKL (11, 197, -9223372036854775808, 961) := rfl
set_option maxRecDepth 100000 in
theorem mi_pkl6 : mi_PKL (2, 97, -9223372036854775808, 1006) := rfl
set_option maxRecDepth 100000 in
theorem mi_pkl7 : mi_PKL (10, 110, 10, 1052) := rfl
set_option maxRecDepth 100000 in
theorem mi_pkl8 : mi_PKL (12, 152, 9999, 1255) := rfl
set_option maxRecDepth 100000 in
theorem mi_pkl9 : mi_PKL (12, 154, 4, 1256) := rfl
set_option maxRecDepth 100000 in
theorem mi_pkl10 : mi_PKL (12, 123, -2, 1269) := rfl
set_option maxRecDepth 100000 in
theorem mi_pkl11 : mi_PKL (12, 125, 2, 1270) := rfl
set_option maxRecDepth 100000 in
theorem mi_pkl12 : mi_PKL (12, 127, 127, 1271) := rfl
set_option maxRecDepth 100000 in
theorem mi_pkl13 : mi_PKL (12, 180, -1000000000000000, 1309) := rfl
set_option maxRecDepth 100000 in
theorem mi_pkl14 : mi_PKL (12, 182, 1000000000000000, 1310) := rfl
set_option maxRecDepth 100000 in
theorem mi_pkl15 : mi_PKL (12, 190, -10000000000000000, 1343) := rfl
set_option maxRecDepth 100000 in
theorem mi_pkl16 : mi_PKL (12, 192, 10000000000000000, 1344) := rfl
set_option maxRecDepth 100000 in
theorem mi_pkl17 : mi_PKL (12, 239, 1000, 1377) := rfl
set_option maxRecDepth 100000 in
theorem mi_pkl18 : mi_PKL (12, 237, -1, 1382) := rfl
set_option maxRecDepth 100000 in
theorem mi_pkl19 : mi_PKL (12, 244, 3, 1387) := rfl
set_option maxRecDepth 100000 in
theorem mi_pkl20 : mi_PKL (12, 246, -9223372036854775808, 1388) := rfl
set_option maxRecDepth 100000 in
theorem mi_pkl21 : mi_PKL (12, 251, 255, 1397) := rfl
set_option maxRecDepth 100000 in
theorem mi_pkl22 : mi_PKL (12, 269, -2147483648, 1418) := rfl
set_option maxRecDepth 100000 in
theorem mi_pkl23 : mi_PKL (12, 271, 2147483647, 1419) := rfl
set_option maxRecDepth 100000 in
theorem mi_pkl24 : mi_PKL (12, 308, 8, 1436) := rfl
set_option maxRecDepth 100000 in
theorem mi_pkl25 : mi_PKL (12, 327, 10, 1496) := rfl
set_option maxRecDepth 100000 in
theorem mi_pkl26 : mi_PKL (12, 344, 5, 1517) := rfl
set_option maxRecDepth 100000 in
theorem mi_pkl27 : mi_PKL (12, 346, 7, 1518) := rfl
set_option maxRecDepth 100000 in
theorem mi_pkl28 : mi_PKL (12, 348, 9, 1519) := rfl
set_option maxRecDepth 100000 in
theorem mi_pkl29 : mi_PKL (13, 32, 4294967295, 1520) := rfl
theorem mi_tKL_ok : ∀ e ∈ mi_tKL, mi_PKL e := List.forall_mem_cons.mpr ⟨mi_pkl0, List.forall_mem_cons.mpr ⟨mi_pkl1, List.forall_mem_cons.mpr ⟨mi_pkl2, List.forall_mem_cons.mpr ⟨mi_pkl3, List.forall_mem_cons.mpr ⟨mi_pkl4, List.forall_mem_cons.mpr ⟨mi_pkl5, List.forall_mem_cons.mpr ⟨mi_pkl6, List.forall_mem_cons.mpr ⟨mi_pkl7, List.forall_mem_cons.mpr ⟨mi_pkl8, List.forall_mem_cons.mpr ⟨mi_pkl9, List.forall_mem_cons.mpr ⟨mi_pkl10, List.forall_mem_cons.mpr ⟨mi_pkl11, List.forall_mem_cons.mpr ⟨mi_pkl12, List.forall_mem_cons.mpr ⟨mi_pkl13, List.forall_mem_cons.mpr ⟨mi_pkl14, List.forall_mem_cons.mpr ⟨mi_pkl15, List.forall_mem_cons.mpr ⟨mi_pkl16, List.forall_mem_cons.mpr ⟨mi_pkl17, List.forall_mem_cons.mpr ⟨mi_pkl18, List.forall_mem_cons.mpr ⟨mi_pkl19, List.forall_mem_cons.mpr ⟨mi_pkl20, List.forall_mem_cons.mpr ⟨mi_pkl21, List.forall_mem_cons.mpr ⟨mi_pkl22, List.forall_mem_cons.mpr ⟨mi_pkl23, List.forall_mem_cons.mpr ⟨mi_pkl24, List.forall_mem_cons.mpr ⟨mi_pkl25, List.forall_mem_cons.mpr ⟨mi_pkl26, List.forall_mem_cons.mpr ⟨mi_pkl27, List.forall_mem_cons.mpr ⟨mi_pkl28, List.forall_mem_cons.mpr ⟨mi_pkl29, fun _ h => absurd h List.not_mem_nil⟩⟩⟩⟩⟩⟩⟩⟩⟩⟩⟩⟩⟩⟩⟩⟩⟩⟩⟩⟩⟩⟩⟩⟩⟩⟩⟩⟩⟩⟩
def mi_PKI : Nat × Nat × Int32 × Nat → Prop := fun e => lw_tbl[e.2.2.2]? = some (Cond.constant (mi_RX e.1) e.2.1 e.2.2.1)
set_option maxRecDepth 100000 in
theorem mi_pki0 : mi_PKI (4, 52, 65535, 510) := rfl
set_option maxRecDepth 100000 in
theorem mi_pki1 : mi_PKI (4, 53, 32768, 511) := rfl
set_option maxRecDepth 100000 in
theorem mi_pki2 : mi_PKI (12, 136, 65535, 1280) := rfl
set_option maxRecDepth 100000 in
theorem mi_pki3 : mi_PKI (12, 135, 32768, 1284) := rfl
theorem mi_tKI_ok : ∀ e ∈ mi_tKI, mi_PKI e := List.forall_mem_cons.mpr ⟨mi_pki0, List.forall_mem_cons.mpr ⟨mi_pki1, List.forall_mem_cons.mpr ⟨mi_pki2, List.forall_mem_cons.mpr ⟨mi_pki3, fun _ h => absurd h List.not_mem_nil⟩⟩⟩⟩
def mi_QN (k : Nat) : MethodName := ([yX3_init, yX3_at, yX3_put, yX6_init, yX6_at, yX6_put, yX6_clear, yX6_clear, Lib.MathLoose.abs_long.x, Lib.Math.min.name, Lib.Math.max.name, Lib.objectInit] : List MethodName).getD k Lib.objectInit
def mi_PQ : Nat × Nat × Nat × Nat → Prop := fun e => lw_tbl[e.2.2.2]? = some (Cond.methodLink (mi_RX e.1) e.2.1 (mi_QN e.2.2.1)) ∧ e.2.2.1 < 12
set_option maxRecDepth 100000 in
theorem mi_pq0 : mi_PQ (11, 1, 11, 90) := ⟨rfl, by decide⟩
set_option maxRecDepth 100000 in
theorem mi_pq1 : mi_PQ (1, 3, 11, 98) := ⟨rfl, by decide⟩
set_option maxRecDepth 100000 in
theorem mi_pq2 : mi_PQ (0, 3, 11, 104) := ⟨rfl, by decide⟩
set_option maxRecDepth 100000 in
theorem mi_pq3 : mi_PQ (0, 11, 0, 107) := ⟨rfl, by decide⟩
set_option maxRecDepth 100000 in
theorem mi_pq4 : mi_PQ (3, 1, 11, 110) := ⟨rfl, by decide⟩
set_option maxRecDepth 100000 in
theorem mi_pq5 : mi_PQ (0, 37, 3, 121) := ⟨rfl, by decide⟩
set_option maxRecDepth 100000 in
theorem mi_pq6 : mi_PQ (6, 1, 11, 124) := ⟨rfl, by decide⟩
set_option maxRecDepth 100000 in
theorem mi_pq7 : mi_PQ (7, 3, 11, 183) := ⟨rfl, by decide⟩
set_option maxRecDepth 100000 in
theorem mi_pq8 : mi_PQ (7, 11, 0, 185) := ⟨rfl, by decide⟩
set_option maxRecDepth 100000 in
theorem mi_pq9 : mi_PQ (2, 3, 11, 208) := ⟨rfl, by decide⟩
set_option maxRecDepth 100000 in
theorem mi_pq10 : mi_PQ (2, 11, 0, 210) := ⟨rfl, by decide⟩
set_option maxRecDepth 100000 in
theorem mi_pq11 : mi_PQ (2, 43, 3, 212) := ⟨rfl, by decide⟩
set_option maxRecDepth 100000 in
theorem mi_pq12 : mi_PQ (1, 38, 3, 254) := ⟨rfl, by decide⟩
set_option maxRecDepth 100000 in
theorem mi_pq13 : mi_PQ (4, 3, 11, 282) := ⟨rfl, by decide⟩
set_option maxRecDepth 100000 in
theorem mi_pq14 : mi_PQ (4, 11, 0, 284) := ⟨rfl, by decide⟩
set_option maxRecDepth 100000 in
theorem mi_pq15 : mi_PQ (8, 3, 11, 317) := ⟨rfl, by decide⟩
set_option maxRecDepth 100000 in
theorem mi_pq16 : mi_PQ (5, 1, 11, 323) := ⟨rfl, by decide⟩
set_option maxRecDepth 100000 in
theorem mi_pq17 : mi_PQ (5, 9, 0, 325) := ⟨rfl, by decide⟩
set_option maxRecDepth 100000 in
theorem mi_pq18 : mi_PQ (5, 20, 3, 327) := ⟨rfl, by decide⟩
set_option maxRecDepth 100000 in
theorem mi_pq19 : mi_PQ (9, 3, 11, 373) := ⟨rfl, by decide⟩
set_option maxRecDepth 100000 in
theorem mi_pq20 : mi_PQ (9, 11, 3, 375) := ⟨rfl, by decide⟩
set_option maxRecDepth 100000 in
theorem mi_pq21 : mi_PQ (9, 22, 0, 377) := ⟨rfl, by decide⟩
set_option maxRecDepth 100000 in
theorem mi_pq22 : mi_PQ (10, 3, 11, 397) := ⟨rfl, by decide⟩
set_option maxRecDepth 100000 in
theorem mi_pq23 : mi_PQ (10, 11, 0, 399) := ⟨rfl, by decide⟩
set_option maxRecDepth 100000 in
theorem mi_pq24 : mi_PQ (0, 56, 1, 456) := ⟨rfl, by decide⟩
set_option maxRecDepth 100000 in
theorem mi_pq25 : mi_PQ (4, 32, 2, 473) := ⟨rfl, by decide⟩
set_option maxRecDepth 100000 in
theorem mi_pq26 : mi_PQ (3, 17, 9, 477) := ⟨rfl, by decide⟩
set_option maxRecDepth 100000 in
theorem mi_pq27 : mi_PQ (3, 23, 10, 480) := ⟨rfl, by decide⟩
set_option maxRecDepth 100000 in
theorem mi_pq28 : mi_PQ (4, 41, 1, 505) := ⟨rfl, by decide⟩
set_option maxRecDepth 100000 in
theorem mi_pq29 : mi_PQ (0, 60, 2, 516) := ⟨rfl, by decide⟩
set_option maxRecDepth 100000 in
theorem mi_pq30 : mi_PQ (0, 64, 5, 517) := ⟨rfl, by decide⟩
set_option maxRecDepth 100000 in
theorem mi_pq31 : mi_PQ (6, 17, 9, 521) := ⟨rfl, by decide⟩
set_option maxRecDepth 100000 in
theorem mi_pq32 : mi_PQ (6, 23, 10, 522) := ⟨rfl, by decide⟩
set_option maxRecDepth 100000 in
theorem mi_pq33 : mi_PQ (7, 34, 1, 572) := ⟨rfl, by decide⟩
set_option maxRecDepth 100000 in
theorem mi_pq34 : mi_PQ (7, 30, 2, 577) := ⟨rfl, by decide⟩
set_option maxRecDepth 100000 in
theorem mi_pq35 : mi_PQ (1, 79, 1, 586) := ⟨rfl, by decide⟩
set_option maxRecDepth 100000 in
theorem mi_pq36 : mi_PQ (5, 29, 2, 610) := ⟨rfl, by decide⟩
set_option maxRecDepth 100000 in
theorem mi_pq37 : mi_PQ (5, 33, 5, 611) := ⟨rfl, by decide⟩
set_option maxRecDepth 100000 in
theorem mi_pq38 : mi_PQ (5, 36, 4, 636) := ⟨rfl, by decide⟩
set_option maxRecDepth 100000 in
theorem mi_pq39 : mi_PQ (1, 119, 4, 656) := ⟨rfl, by decide⟩
set_option maxRecDepth 100000 in
theorem mi_pq40 : mi_PQ (11, 184, 1, 659) := ⟨rfl, by decide⟩
set_option maxRecDepth 100000 in
theorem mi_pq41 : mi_PQ (11, 261, 4, 660) := ⟨rfl, by decide⟩
set_option maxRecDepth 100000 in
theorem mi_pq42 : mi_PQ (0, 70, 4, 669) := ⟨rfl, by decide⟩
set_option maxRecDepth 100000 in
theorem mi_pq43 : mi_PQ (2, 55, 2, 674) := ⟨rfl, by decide⟩
set_option maxRecDepth 100000 in
theorem mi_pq44 : mi_PQ (2, 65, 1, 675) := ⟨rfl, by decide⟩
set_option maxRecDepth 100000 in
theorem mi_pq45 : mi_PQ (2, 72, 4, 676) := ⟨rfl, by decide⟩
set_option maxRecDepth 100000 in
theorem mi_pq46 : mi_PQ (2, 75, 5, 677) := ⟨rfl, by decide⟩
set_option maxRecDepth 100000 in
theorem mi_pq47 : mi_PQ (1, 160, 2, 710) := ⟨rfl, by decide⟩
set_option maxRecDepth 100000 in
theorem mi_pq48 : mi_PQ (2, 92, 7, 732) := ⟨rfl, by decide⟩
set_option maxRecDepth 100000 in
theorem mi_pq49 : mi_PQ (9, 34, 2, 800) := ⟨rfl, by decide⟩
set_option maxRecDepth 100000 in
theorem mi_pq50 : mi_PQ (9, 38, 1, 805) := ⟨rfl, by decide⟩
set_option maxRecDepth 100000 in
theorem mi_pq51 : mi_PQ (9, 42, 5, 806) := ⟨rfl, by decide⟩
set_option maxRecDepth 100000 in
theorem mi_pq52 : mi_PQ (9, 45, 8, 807) := ⟨rfl, by decide⟩
set_option maxRecDepth 100000 in
theorem mi_pq53 : mi_PQ (9, 51, 4, 810) := ⟨rfl, by decide⟩
set_option maxRecDepth 100000 in
theorem mi_pq54 : mi_PQ (4, 57, 9, 836) := ⟨rfl, by decide⟩
set_option maxRecDepth 100000 in
theorem mi_pq55 : mi_PQ (8, 45, 1, 869) := ⟨rfl, by decide⟩
set_option maxRecDepth 100000 in
theorem mi_pq56 : mi_PQ (10, 50, 1, 1034) := ⟨rfl, by decide⟩
set_option maxRecDepth 100000 in
theorem mi_pq57 : mi_PQ (10, 62, 4, 1036) := ⟨rfl, by decide⟩
set_option maxRecDepth 100000 in
theorem mi_pq58 : mi_PQ (10, 112, 2, 1045) := ⟨rfl, by decide⟩
set_option maxRecDepth 100000 in
theorem mi_pq59 : mi_PQ (10, 104, 8, 1051) := ⟨rfl, by decide⟩
set_option maxRecDepth 100000 in
theorem mi_pq60 : mi_PQ (12, 1, 11, 1094) := ⟨rfl, by decide⟩
theorem mi_tQ_ok : ∀ e ∈ mi_tQ, mi_PQ e := List.forall_mem_cons.mpr ⟨mi_pq0, List.forall_mem_cons.mpr ⟨mi_pq1, List.forall_mem_cons.mpr ⟨mi_pq2, List.forall_mem_cons.mpr ⟨mi_pq3, List.forall_mem_cons.mpr ⟨mi_pq4, List.forall_mem_cons.mpr ⟨mi_pq5, List.forall_mem_cons.mpr ⟨mi_pq6, List.forall_mem_cons.mpr ⟨mi_pq7, List.forall_mem_cons.mpr ⟨mi_pq8, List.forall_mem_cons.mpr ⟨mi_pq9, List.forall_mem_cons.mpr ⟨mi_pq10, List.forall_mem_cons.mpr ⟨mi_pq11, List.forall_mem_cons.mpr ⟨mi_pq12, List.forall_mem_cons.mpr ⟨mi_pq13, List.forall_mem_cons.mpr ⟨mi_pq14, List.forall_mem_cons.mpr ⟨mi_pq15, List.forall_mem_cons.mpr ⟨mi_pq16, List.forall_mem_cons.mpr ⟨mi_pq17, List.forall_mem_cons.mpr ⟨mi_pq18, List.forall_mem_cons.mpr ⟨mi_pq19, List.forall_mem_cons.mpr ⟨mi_pq20, List.forall_mem_cons.mpr ⟨mi_pq21, List.forall_mem_cons.mpr ⟨mi_pq22, List.forall_mem_cons.mpr ⟨mi_pq23, List.forall_mem_cons.mpr ⟨mi_pq24, List.forall_mem_cons.mpr ⟨mi_pq25, List.forall_mem_cons.mpr ⟨mi_pq26, List.forall_mem_cons.mpr ⟨mi_pq27, List.forall_mem_cons.mpr ⟨mi_pq28, List.forall_mem_cons.mpr ⟨mi_pq29, List.forall_mem_cons.mpr ⟨mi_pq30, List.forall_mem_cons.mpr ⟨mi_pq31, List.forall_mem_cons.mpr ⟨mi_pq32, List.forall_mem_cons.mpr ⟨mi_pq33, List.forall_mem_cons.mpr ⟨mi_pq34, List.forall_mem_cons.mpr ⟨mi_pq35, List.forall_mem_cons.mpr ⟨mi_pq36, List.forall_mem_cons.mpr ⟨mi_pq37, List.forall_mem_cons.mpr ⟨mi_pq38, List.forall_mem_cons.mpr ⟨mi_pq39, List.forall_mem_cons.mpr ⟨mi_pq40, List.forall_mem_cons.mpr ⟨mi_pq41, List.forall_mem_cons.mpr ⟨mi_pq42, List.forall_mem_cons.mpr ⟨mi_pq43, List.forall_mem_cons.mpr ⟨mi_pq44, List.forall_mem_cons.mpr ⟨mi_pq45, List.forall_mem_cons.mpr ⟨mi_pq46, List.forall_mem_cons.mpr ⟨mi_pq47, List.forall_mem_cons.mpr ⟨mi_pq48, List.forall_mem_cons.mpr ⟨mi_pq49, List.forall_mem_cons.mpr ⟨mi_pq50, List.forall_mem_cons.mpr ⟨mi_pq51, List.forall_mem_cons.mpr ⟨mi_pq52, List.forall_mem_cons.mpr ⟨mi_pq53, List.forall_mem_cons.mpr ⟨mi_pq54, List.forall_mem_cons.mpr ⟨mi_pq55, List.forall_mem_cons.mpr ⟨mi_pq56, List.forall_mem_cons.mpr ⟨mi_pq57, List.forall_mem_cons.mpr ⟨mi_pq58, List.forall_mem_cons.mpr ⟨mi_pq59, List.forall_mem_cons.mpr ⟨mi_pq60, fun _ h => absurd h List.not_mem_nil⟩⟩⟩⟩⟩⟩⟩⟩⟩⟩⟩⟩⟩⟩⟩⟩⟩⟩⟩⟩⟩⟩⟩⟩⟩⟩⟩⟩⟩⟩⟩⟩⟩⟩⟩⟩⟩⟩⟩⟩⟩⟩⟩⟩⟩⟩⟩⟩⟩⟩⟩⟩⟩⟩⟩⟩⟩⟩⟩⟩⟩
theorem mi_cl (k : Nat) (h : k < 13) : vwCl[k]? = some (mi_RX k, mi_T k, mi_n k) := by
  rcases (show k = 0 ∨ k = 1 ∨ k = 2 ∨ k = 3 ∨ k = 4 ∨ k = 5 ∨ k = 6 ∨ k = 7 ∨ k = 8 ∨ k = 9 ∨ k = 10 ∨ k = 11 ∨ k = 12 by omega) with rfl | rfl | rfl | rfl | rfl | rfl | rfl | rfl | rfl | rfl | rfl | rfl | rfl <;> rfl
theorem mi_Ty_ok (k : Nat) (h : k < 13) : ∀ j, j < mi_n k → parseFieldDescriptor (mi_T k j).2.2.1 = some (mi_Ty k j) := by
  rcases (show k = 0 ∨ k = 1 ∨ k = 2 ∨ k = 3 ∨ k = 4 ∨ k = 5 ∨ k = 6 ∨ k = 7 ∨ k = 8 ∨ k = 9 ∨ k = 10 ∨ k = 11 ∨ k = 12 by omega) with rfl | rfl | rfl | rfl | rfl | rfl | rfl | rfl | rfl | rfl | rfl | rfl | rfl
  · exact tyX0_ok
  · exact tyX1_ok
  · exact tyX2_ok
  · exact tyX3_ok
  · exact tyX4_ok
  · exact tyX5_ok
  · exact tyX6_ok
  · exact tyX7_ok
  · exact tyX8_ok
  · exact tyX9_ok
  · exact tyX10_ok
  · exact tyX11_ok
  · exact tyX12_ok
theorem mi_nm_ok (k : Nat) (h : k < 13) : ∀ a, a < mi_n k → ∀ b, b < mi_n k → a ≠ b → (mi_T k a).2.1 ≠ (mi_T k b).2.1 := by
  rcases (show k = 0 ∨ k = 1 ∨ k = 2 ∨ k = 3 ∨ k = 4 ∨ k = 5 ∨ k = 6 ∨ k = 7 ∨ k = 8 ∨ k = 9 ∨ k = 10 ∨ k = 11 ∨ k = 12 by omega) with rfl | rfl | rfl | rfl | rfl | rfl | rfl | rfl | rfl | rfl | rfl | rfl | rfl
  · exact nmX0
  · exact nmX1
  · exact nmX2
  · exact nmX3
  · exact nmX4
  · exact nmX5
  · exact nmX6
  · exact nmX7
  · exact nmX8
  · exact nmX9
  · exact nmX10
  · exact nmX11
  · exact nmX12
set_option maxRecDepth 100000 in
theorem mi_inw0 : u_ws RX0 TX0 10 = ([157, 159, 161, 163, 165, 167, 169, 171, 173, 175] : List Nat).filterMap (fun i => lw_tbl[i]?) := rfl
set_option maxRecDepth 100000 in
theorem mi_inw1 : u_ws RX1 TX1 5 = ([266, 268, 270, 272, 274] : List Nat).filterMap (fun i => lw_tbl[i]?) := rfl
set_option maxRecDepth 100000 in
theorem mi_inw2 : u_ws RX2 TX2 11 = ([230, 232, 234, 236, 238, 240, 242, 244, 246, 248, 250] : List Nat).filterMap (fun i => lw_tbl[i]?) := rfl
set_option maxRecDepth 100000 in
theorem mi_inw3 : u_ws RX3 TX3 2 = ([113, 115] : List Nat).filterMap (fun i => lw_tbl[i]?) := rfl
set_option maxRecDepth 100000 in
theorem mi_inw4 : u_ws RX4 TX4 7 = ([297, 299, 301, 303, 305, 307, 309] : List Nat).filterMap (fun i => lw_tbl[i]?) := rfl
set_option maxRecDepth 100000 in
theorem mi_inw5 : u_ws RX5 TX5 3 = ([340, 342, 344] : List Nat).filterMap (fun i => lw_tbl[i]?) := rfl
set_option maxRecDepth 100000 in
theorem mi_inw6 : u_ws RX6 TX6 2 = ([127, 129] : List Nat).filterMap (fun i => lw_tbl[i]?) := rfl
set_option maxRecDepth 100000 in
theorem mi_inw7 : u_ws RX7 TX7 4 = ([194, 196, 198, 200] : List Nat).filterMap (fun i => lw_tbl[i]?) := rfl
set_option maxRecDepth 100000 in
theorem mi_inw8 : u_ws RX8 TX8 6 = ([353, 355, 357, 359, 361, 363] : List Nat).filterMap (fun i => lw_tbl[i]?) := rfl
set_option maxRecDepth 100000 in
theorem mi_inw9 : u_ws RX9 TX9 4 = ([383, 385, 387, 389] : List Nat).filterMap (fun i => lw_tbl[i]?) := rfl
set_option maxRecDepth 100000 in
theorem mi_inw10 : u_ws RX10 TX10 4 = ([406, 408, 410, 412] : List Nat).filterMap (fun i => lw_tbl[i]?) := rfl
set_option maxRecDepth 100000 in
theorem mi_inw11 : u_ws RX11 TX11 8 = ([423, 425, 427, 429, 431, 433, 435, 437] : List Nat).filterMap (fun i => lw_tbl[i]?) := rfl
set_option maxRecDepth 100000 in
theorem mi_inw12 : u_ws RX12 TX12 49 = ([1144, 1146, 1148, 1150, 1152, 1154, 1156, 1158, 1160, 1162, 1164, 1166, 1168, 1170, 1172, 1174, 1176, 1178, 1180, 1182, 1184, 1186, 1188, 1190, 1192, 1194, 1196, 1198, 1200, 1202, 1204, 1206, 1208, 1210, 1212, 1214, 1216, 1218, 1220, 1222, 1224, 1226, 1228, 1230, 1232, 1234, 1236, 1238, 1240] : List Nat).filterMap (fun i => lw_tbl[i]?) := rfl
theorem mi_in_of {ws : List Cond} (ps : List Nat) (h : ws = ps.filterMap (fun i => lw_tbl[i]?)) : ∀ w ∈ ws, w ∈ lw_tbl := by
  intro w hw
  rw [h] at hw
  obtain ⟨i, -, hi⟩ := List.mem_filterMap.mp hw
  exact List.mem_of_getElem? hi
theorem mi_in (k : Nat) (h : k < 13) : ∀ w ∈ u_ws (mi_RX k) (mi_T k) (mi_n k), w ∈ lw_tbl := by
  rcases (show k = 0 ∨ k = 1 ∨ k = 2 ∨ k = 3 ∨ k = 4 ∨ k = 5 ∨ k = 6 ∨ k = 7 ∨ k = 8 ∨ k = 9 ∨ k = 10 ∨ k = 11 ∨ k = 12 by omega) with rfl | rfl | rfl | rfl | rfl | rfl | rfl | rfl | rfl | rfl | rfl | rfl | rfl
  · exact mi_in_of _ mi_inw0
  · exact mi_in_of _ mi_inw1
  · exact mi_in_of _ mi_inw2
  · exact mi_in_of _ mi_inw3
  · exact mi_in_of _ mi_inw4
  · exact mi_in_of _ mi_inw5
  · exact mi_in_of _ mi_inw6
  · exact mi_in_of _ mi_inw7
  · exact mi_in_of _ mi_inw8
  · exact mi_in_of _ mi_inw9
  · exact mi_in_of _ mi_inw10
  · exact mi_in_of _ mi_inw11
  · exact mi_in_of _ mi_inw12
